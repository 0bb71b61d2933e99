/-! LockstepNetModel.measure()V -/
theorem rX8_measure_0 {l : Launch} {G : jG} {X : jX} {Q : State → Prop} {n hg nc : Nat} {ret : Option FieldType} {mu : jM} (h : jOk l G X cX8_measure 4 ret RX8 hg nc)
    (k3 : J l G X Q 4 16 [.ref 58, .int (mu 75 (0 : Int32).toNatClampNeg), .int (mu 75 (0 : Int32).toNatClampNeg), .int 0] [] mu n) :
    J l G X Q 4 0 [.ref 58, .float 0, .float 0, .float 0] [] mu n := by
  refine J_aload_n h dX8_measure_0 rfl rfl ?_
  refine J_getr (k := 23) h dX8_measure_1 jc8 rfl rfl (by decide) w1007 ?_
  refine J_iconst h dX8_measure_4 ci_0 ?_
  refine J_iald h dX8_measure_5 rfl (jin (by decide)) ?_
  refine J_istore_n h dX8_measure_6 rfl (by decide) rfl ?_
  show J l G X Q 4 7 [.ref 58, .int (mu 75 (0 : Int32).toNatClampNeg), .float 0, .float 0] [] mu n
  refine J_aload_n h dX8_measure_7 rfl rfl ?_
  refine J_getr (k := 23) h dX8_measure_8 jc8 rfl rfl (by decide) w1007 ?_
  refine J_iconst h dX8_measure_11 ci_0 ?_
  refine J_iald h dX8_measure_12 rfl (jin (by decide)) ?_
  refine J_istore_n h dX8_measure_13 rfl (by decide) rfl ?_
  show J l G X Q 4 14 [.ref 58, .int (mu 75 (0 : Int32).toNatClampNeg), .int (mu 75 (0 : Int32).toNatClampNeg), .float 0] [] mu n
  refine J_iconst h dX8_measure_14 ci_0 ?_
  refine J_istore_n h dX8_measure_15 rfl (by decide) rfl ?_
  show J l G X Q 4 16 [.ref 58, .int (mu 75 (0 : Int32).toNatClampNeg), .int (mu 75 (0 : Int32).toNatClampNeg), .int 0] [] mu n
  exact k3
theorem rX8_measure_16 {l : Launch} {G : jG} {X : jX} {Q : State → Prop} {n hg nc : Nat} {ret : Option FieldType} {mu : jM} {x1 : Int32} {x2 : Int32} {x3 : Int32} (h : jOk l G X cX8_measure 4 ret RX8 hg nc) (s5 : ¬ (mu 58 1) ≤ x3 → vp_in x3 24) (s7 : ¬ (mu 58 1) ≤ x3 → x1 ≤ (mu 75 (x3).toNatClampNeg) → vp_in x3 24) (s10 : ¬ (mu 58 1) ≤ x3 → x1 ≤ (mu 75 (x3).toNatClampNeg) → ¬ (mu 75 (x3).toNatClampNeg) ≤ x2 → vp_in x3 24) (s12 : ¬ (mu 58 1) ≤ x3 → ¬ x1 ≤ (mu 75 (x3).toNatClampNeg) → vp_in x3 24) (s13 : ¬ (mu 58 1) ≤ x3 → ¬ x1 ≤ (mu 75 (x3).toNatClampNeg) → vp_in x3 24) (s16 : ¬ (mu 58 1) ≤ x3 → ¬ x1 ≤ (mu 75 (x3).toNatClampNeg) → ¬ (mu 75 (x3).toNatClampNeg) ≤ x2 → vp_in x3 24)
    (k3 : (mu 58 1) ≤ x3 → (x2 - x1) ≤ (mu 58 41) → J l G X Q 4 96 [.ref 58, .int x1, .int x2, .int x3] [] (wr mu 58 41 (mu 58 41)) n)
    (k4 : (mu 58 1) ≤ x3 → ¬ (x2 - x1) ≤ (mu 58 41) → J l G X Q 4 96 [.ref 58, .int x1, .int x2, .int x3] [] (wr mu 58 41 (x2 - x1)) n)
    (k9 : ¬ (mu 58 1) ≤ x3 → x1 ≤ (mu 75 (x3).toNatClampNeg) → (mu 75 (x3).toNatClampNeg) ≤ x2 → J l G X Q 4 16 [.ref 58, .int x1, .int x2, .int (x3 + 1)] [] mu n)
    (k11 : ¬ (mu 58 1) ≤ x3 → x1 ≤ (mu 75 (x3).toNatClampNeg) → ¬ (mu 75 (x3).toNatClampNeg) ≤ x2 → J l G X Q 4 16 [.ref 58, .int x1, .int (mu 75 (x3).toNatClampNeg), .int (x3 + 1)] [] mu n)
    (k15 : ¬ (mu 58 1) ≤ x3 → ¬ x1 ≤ (mu 75 (x3).toNatClampNeg) → (mu 75 (x3).toNatClampNeg) ≤ x2 → J l G X Q 4 16 [.ref 58, .int (mu 75 (x3).toNatClampNeg), .int x2, .int (x3 + 1)] [] mu n)
    (k17 : ¬ (mu 58 1) ≤ x3 → ¬ x1 ≤ (mu 75 (x3).toNatClampNeg) → ¬ (mu 75 (x3).toNatClampNeg) ≤ x2 → J l G X Q 4 16 [.ref 58, .int (mu 75 (x3).toNatClampNeg), .int (mu 75 (x3).toNatClampNeg), .int (x3 + 1)] [] mu n) :
    J l G X Q 4 16 [.ref 58, .int x1, .int x2, .int x3] [] mu n := by
  refine J_iload_n h dX8_measure_16 rfl rfl ?_
  refine J_aload_n h dX8_measure_17 rfl rfl ?_
  refine J_geti (k := 1) h dX8_measure_18 jc8 rfl rfl (by decide) w985 ?_
  refine J_icmp_ge (tgt := 72) h dX8_measure_21 (by decide) (fun q1 => ?_) (fun q1 => ?_)
  · skip
    refine J_aload_n h dX8_measure_72 rfl rfl ?_
    refine J_iload_n h dX8_measure_73 rfl rfl ?_
    refine J_iload_n h dX8_measure_74 rfl rfl ?_
    refine J_isub h dX8_measure_75 ?_
    refine J_aload_n h dX8_measure_76 rfl rfl ?_
    refine J_geti (k := 41) h dX8_measure_77 jc8 rfl rfl (by decide) w1025 ?_
    refine J_icmp_le (tgt := 89) h dX8_measure_80 (by decide) (fun q2 => ?_) (fun q2 => ?_)
    · skip
      refine J_aload_n h dX8_measure_89 rfl rfl ?_
      refine J_geti (k := 41) h dX8_measure_90 jc8 rfl rfl (by decide) w1025 ?_
      refine J_puti (k := 41) (ty0 := tyX8) h dX8_measure_93 jc8 tyX8_ok nmX8 rfl rfl (by decide) rfl rfl rfl w1025 ?_
      exact k3 q1 q2
    · skip
      refine J_iload_n h dX8_measure_83 rfl rfl ?_
      refine J_iload_n h dX8_measure_84 rfl rfl ?_
      refine J_isub h dX8_measure_85 ?_
      refine J_goto (tgt := 93) h dX8_measure_86 (by decide) ?_
      refine J_puti (k := 41) (ty0 := tyX8) h dX8_measure_93 jc8 tyX8_ok nmX8 rfl rfl (by decide) rfl rfl rfl w1025 ?_
      exact k4 q1 q2
  · skip
    refine J_aload_n h dX8_measure_24 rfl rfl ?_
    refine J_getr (k := 23) h dX8_measure_25 jc8 rfl rfl (by decide) w1007 ?_
    refine J_iload_n h dX8_measure_28 rfl rfl ?_
    refine J_iald h dX8_measure_29 rfl (s5 q1) ?_
    refine J_iload_n h dX8_measure_30 rfl rfl ?_
    refine J_icmp_ge (tgt := 43) h dX8_measure_31 (by decide) (fun q6 => ?_) (fun q6 => ?_)
    · skip
      refine J_iload_n h dX8_measure_43 rfl rfl ?_
      refine J_istore_n h dX8_measure_44 rfl (by decide) rfl ?_
      show J l G X Q 4 45 [.ref 58, .int x1, .int x2, .int x3] [] mu n
      refine J_aload_n h dX8_measure_45 rfl rfl ?_
      refine J_getr (k := 23) h dX8_measure_46 jc8 rfl rfl (by decide) w1007 ?_
      refine J_iload_n h dX8_measure_49 rfl rfl ?_
      refine J_iald h dX8_measure_50 rfl (s7 q1 q6) ?_
      refine J_iload_n h dX8_measure_51 rfl rfl ?_
      refine J_icmp_le (tgt := 64) h dX8_measure_52 (by decide) (fun q8 => ?_) (fun q8 => ?_)
      · skip
        refine J_iload_n h dX8_measure_64 rfl rfl ?_
        refine J_istore_n h dX8_measure_65 rfl (by decide) rfl ?_
        show J l G X Q 4 66 [.ref 58, .int x1, .int x2, .int x3] [] mu n
        refine J_iinc h dX8_measure_66 rfl (cc_1 _) (by decide) rfl ?_
        show J l G X Q 4 69 [.ref 58, .int x1, .int x2, .int (x3 + 1)] [] mu n
        refine J_goto (tgt := 16) h dX8_measure_69 (by decide) ?_
        exact k9 q1 q6 q8
      · skip
        refine J_aload_n h dX8_measure_55 rfl rfl ?_
        refine J_getr (k := 23) h dX8_measure_56 jc8 rfl rfl (by decide) w1007 ?_
        refine J_iload_n h dX8_measure_59 rfl rfl ?_
        refine J_iald h dX8_measure_60 rfl (s10 q1 q6 q8) ?_
        refine J_goto (tgt := 65) h dX8_measure_61 (by decide) ?_
        refine J_istore_n h dX8_measure_65 rfl (by decide) rfl ?_
        show J l G X Q 4 66 [.ref 58, .int x1, .int (mu 75 (x3).toNatClampNeg), .int x3] [] mu n
        refine J_iinc h dX8_measure_66 rfl (cc_1 _) (by decide) rfl ?_
        show J l G X Q 4 69 [.ref 58, .int x1, .int (mu 75 (x3).toNatClampNeg), .int (x3 + 1)] [] mu n
        refine J_goto (tgt := 16) h dX8_measure_69 (by decide) ?_
        exact k11 q1 q6 q8
    · skip
      refine J_aload_n h dX8_measure_34 rfl rfl ?_
      refine J_getr (k := 23) h dX8_measure_35 jc8 rfl rfl (by decide) w1007 ?_
      refine J_iload_n h dX8_measure_38 rfl rfl ?_
      refine J_iald h dX8_measure_39 rfl (s12 q1 q6) ?_
      refine J_goto (tgt := 44) h dX8_measure_40 (by decide) ?_
      refine J_istore_n h dX8_measure_44 rfl (by decide) rfl ?_
      show J l G X Q 4 45 [.ref 58, .int (mu 75 (x3).toNatClampNeg), .int x2, .int x3] [] mu n
      refine J_aload_n h dX8_measure_45 rfl rfl ?_
      refine J_getr (k := 23) h dX8_measure_46 jc8 rfl rfl (by decide) w1007 ?_
      refine J_iload_n h dX8_measure_49 rfl rfl ?_
      refine J_iald h dX8_measure_50 rfl (s13 q1 q6) ?_
      refine J_iload_n h dX8_measure_51 rfl rfl ?_
      refine J_icmp_le (tgt := 64) h dX8_measure_52 (by decide) (fun q14 => ?_) (fun q14 => ?_)
      · skip
        refine J_iload_n h dX8_measure_64 rfl rfl ?_
        refine J_istore_n h dX8_measure_65 rfl (by decide) rfl ?_
        show J l G X Q 4 66 [.ref 58, .int (mu 75 (x3).toNatClampNeg), .int x2, .int x3] [] mu n
        refine J_iinc h dX8_measure_66 rfl (cc_1 _) (by decide) rfl ?_
        show J l G X Q 4 69 [.ref 58, .int (mu 75 (x3).toNatClampNeg), .int x2, .int (x3 + 1)] [] mu n
        refine J_goto (tgt := 16) h dX8_measure_69 (by decide) ?_
        exact k15 q1 q6 q14
      · skip
        refine J_aload_n h dX8_measure_55 rfl rfl ?_
        refine J_getr (k := 23) h dX8_measure_56 jc8 rfl rfl (by decide) w1007 ?_
        refine J_iload_n h dX8_measure_59 rfl rfl ?_
        refine J_iald h dX8_measure_60 rfl (s16 q1 q6 q14) ?_
        refine J_goto (tgt := 65) h dX8_measure_61 (by decide) ?_
        refine J_istore_n h dX8_measure_65 rfl (by decide) rfl ?_
        show J l G X Q 4 66 [.ref 58, .int (mu 75 (x3).toNatClampNeg), .int (mu 75 (x3).toNatClampNeg), .int x3] [] mu n
        refine J_iinc h dX8_measure_66 rfl (cc_1 _) (by decide) rfl ?_
        show J l G X Q 4 69 [.ref 58, .int (mu 75 (x3).toNatClampNeg), .int (mu 75 (x3).toNatClampNeg), .int (x3 + 1)] [] mu n
        refine J_goto (tgt := 16) h dX8_measure_69 (by decide) ?_
        exact k17 q1 q6 q14
/-! LockstepNetModel.next(I)V -/
theorem rX8_next_0 {l : Launch} {G : jG} {X : jX} {Q : State → Prop} {n hg nc : Nat} {ret : Option FieldType} {mu : jM} {x1 : Int32} (h : jOk l G X cX8_next 4 ret RX8 hg nc) (s1 : vp_in x1 24)
    (k2 : J l G X Q 4 12 [.ref 58, .int x1, .int (mu 75 (x1).toNatClampNeg), .float 0] [.int ((mu 75 (x1).toNatClampNeg) - ((mu 75 (x1).toNatClampNeg) / 2) * 2), .int x1, .ref 58] mu n) :
    J l G X Q 4 0 [.ref 58, .int x1, .float 0, .float 0] [] mu n := by
  refine J_aload_n h dX8_next_0 rfl rfl ?_
  refine J_getr (k := 23) h dX8_next_1 jc8 rfl rfl (by decide) w1007 ?_
  refine J_iload_n h dX8_next_4 rfl rfl ?_
  refine J_iald h dX8_next_5 rfl (s1) ?_
  refine J_istore_n h dX8_next_6 rfl (by decide) rfl ?_
  show J l G X Q 4 7 [.ref 58, .int x1, .int (mu 75 (x1).toNatClampNeg), .float 0] [] mu n
  refine J_aload_n h dX8_next_7 rfl rfl ?_
  refine J_iload_n h dX8_next_8 rfl rfl ?_
  refine J_iload_n h dX8_next_9 rfl rfl ?_
  refine J_iconst h dX8_next_10 ci_2 ?_
  refine J_irem h dX8_next_11 (by decide) ?_
  exact k2
theorem rX8_next_12 {l : Launch} {G : jG} {X : jX} {Q : State → Prop} {n hg nc : Nat} {ret : Option FieldType} {mu : jM} {x1 : Int32} {x2 : Int32} {y0 : Int32} {y1 : Int32} {Qc : jM → Prop} {h' : Nat} (h : jOk l G X cX8_next 4 ret RX8 hg nc) (hM : jCv l G yX8_takeIn cX8_takeIn 5 h' (.ref 58 :: [.int y1, .int y0]) mu Qc) (hh : h' < hg ∧ 5 ≤ 21) (hn : n ≤ nc)
    (kk : ∀ mu', Qc mu' → J l G X Q 4 15 [.ref 58, .int x1, .int x2, .float 0] [] mu' n) :
    J l G X Q 4 12 [.ref 58, .int x1, .int x2, .float 0] [.int y0, .int y1, .ref 58] mu n :=
  J_callV (As := [.int y1, .int y0]) (rest := []) h dX8_next_12 hM (jgV w1328 w1330 w66 w84 w1331) rfl (ci := 8) rfl rfl nmX8_takeIn rfl hh (Nat.le_of_ble_eq_true rfl) rfl kk hn
theorem rX8_next_15 {l : Launch} {G : jG} {X : jX} {Q : State → Prop} {n hg nc : Nat} {ret : Option FieldType} {mu : jM} {x1 : Int32} {x2 : Int32} (h : jOk l G X cX8_next 4 ret RX8 hg nc)
    (k1 : J l G X Q 4 17 [.ref 58, .int x1, .int x2, .int 0] [] mu n) :
    J l G X Q 4 15 [.ref 58, .int x1, .int x2, .float 0] [] mu n := by
  refine J_iconst h dX8_next_15 ci_0 ?_
  refine J_istore_n h dX8_next_16 rfl (by decide) rfl ?_
  show J l G X Q 4 17 [.ref 58, .int x1, .int x2, .int 0] [] mu n
  exact k1
theorem rX8_next_17 {l : Launch} {G : jG} {X : jX} {Q : State → Prop} {n hg nc : Nat} {ret : Option FieldType} {mu : jM} {x1 : Int32} {x2 : Int32} {x3 : Int32} (h : jOk l G X cX8_next 4 ret RX8 hg nc) (s3 : ¬ 8 ≤ x3 → vp_in ((8 * x1) + x3) 192) (s4 : ¬ 8 ≤ x3 → vp_in x3 8)
    (k2 : 8 ≤ x3 → J l G X Q 4 51 [.ref 58, .int x1, .int x2, .int x3] [.int (x2 + 1), .int x1, .ref 58] mu n)
    (k5 : ¬ 8 ≤ x3 → J l G X Q 4 17 [.ref 58, .int x1, .int x2, .int (x3 + 1)] [] (wr mu 66 (x3).toNatClampNeg (mu 76 (((8 * x1) + x3)).toNatClampNeg)) n) :
    J l G X Q 4 17 [.ref 58, .int x1, .int x2, .int x3] [] mu n := by
  refine J_iload_n h dX8_next_17 rfl rfl ?_
  refine J_bipush h dX8_next_18 cb_8 ?_
  refine J_icmp_ge (tgt := 46) h dX8_next_20 (by decide) (fun q1 => ?_) (fun q1 => ?_)
  · skip
    refine J_aload_n h dX8_next_46 rfl rfl ?_
    refine J_iload_n h dX8_next_47 rfl rfl ?_
    refine J_iload_n h dX8_next_48 rfl rfl ?_
    refine J_iconst h dX8_next_49 ci_1 ?_
    refine J_iadd h dX8_next_50 ?_
    exact k2 q1
  · skip
    refine J_aload_n h dX8_next_23 rfl rfl ?_
    refine J_getr (k := 11) h dX8_next_24 jc8 rfl rfl (by decide) w995 ?_
    refine J_iload_n h dX8_next_27 rfl rfl ?_
    refine J_aload_n h dX8_next_28 rfl rfl ?_
    refine J_getr (k := 24) h dX8_next_29 jc8 rfl rfl (by decide) w1008 ?_
    refine J_bipush h dX8_next_32 cb_8 ?_
    refine J_iload_n h dX8_next_34 rfl rfl ?_
    refine J_imul h dX8_next_35 ?_
    refine J_iload_n h dX8_next_36 rfl rfl ?_
    refine J_iadd h dX8_next_37 ?_
    refine J_iald h dX8_next_38 rfl (s3 q1) ?_
    refine J_iast h dX8_next_39 rfl (s4 q1) ?_
    refine J_iinc h dX8_next_40 rfl (cc_1 _) (by decide) rfl ?_
    show J l G X Q 4 43 [.ref 58, .int x1, .int x2, .int (x3 + 1)] [] (wr mu 66 (x3).toNatClampNeg (mu 76 (((8 * x1) + x3)).toNatClampNeg)) n
    refine J_goto (tgt := 17) h dX8_next_43 (by decide) ?_
    exact k5 q1
theorem rX8_next_51 {l : Launch} {G : jG} {X : jX} {Q : State → Prop} {n hg nc : Nat} {ret : Option FieldType} {mu : jM} {x1 : Int32} {x2 : Int32} {x3 : Int32} {y0 : Int32} {y1 : Int32} {Qc : jM → Prop} {h' : Nat} (h : jOk l G X cX8_next 4 ret RX8 hg nc) (hM : jCv l G yX8_doProgram cX8_doProgram 6 h' (.ref 58 :: [.int y1, .int y0]) mu Qc) (hh : h' < hg ∧ 6 ≤ 21) (hn : n ≤ nc)
    (kk : ∀ mu', Qc mu' → J l G X Q 4 54 [.ref 58, .int x1, .int x2, .int x3] [] mu' n) :
    J l G X Q 4 51 [.ref 58, .int x1, .int x2, .int x3] [.int y0, .int y1, .ref 58] mu n :=
  J_callV (As := [.int y1, .int y0]) (rest := []) h dX8_next_51 hM (jgV w1227 w1229 w47 w84 w1230) rfl (ci := 8) rfl rfl nmX8_doProgram rfl hh (Nat.le_of_ble_eq_true rfl) rfl kk hn
theorem rX8_next_54 {l : Launch} {G : jG} {X : jX} {Q : State → Prop} {n hg nc : Nat} {ret : Option FieldType} {mu : jM} {x1 : Int32} {x2 : Int32} {x3 : Int32} (h : jOk l G X cX8_next 4 ret RX8 hg nc)
    (k1 : J l G X Q 4 56 [.ref 58, .int x1, .int x2, .int 0] [] mu n) :
    J l G X Q 4 54 [.ref 58, .int x1, .int x2, .int x3] [] mu n := by
  refine J_iconst h dX8_next_54 ci_0 ?_
  refine J_istore_n h dX8_next_55 rfl (by decide) rfl ?_
  show J l G X Q 4 56 [.ref 58, .int x1, .int x2, .int 0] [] mu n
  exact k1
theorem rX8_next_56 {l : Launch} {G : jG} {X : jX} {Q : State → Prop} {n hg nc : Nat} {ret : Option FieldType} {mu : jM} {x1 : Int32} {x2 : Int32} {x3 : Int32} (h : jOk l G X cX8_next 4 ret RX8 hg nc) (s3 : ¬ 8 ≤ x3 → vp_in x3 8) (s4 : ¬ 8 ≤ x3 → vp_in ((8 * x1) + x3) 192)
    (k2 : 8 ≤ x3 → J l G X Q 4 87 [.ref 58, .int x1, .int x2, .int 0] [] mu n)
    (k5 : ¬ 8 ≤ x3 → J l G X Q 4 56 [.ref 58, .int x1, .int x2, .int (x3 + 1)] [] (wr mu 76 (((8 * x1) + x3)).toNatClampNeg (mu 66 (x3).toNatClampNeg)) n) :
    J l G X Q 4 56 [.ref 58, .int x1, .int x2, .int x3] [] mu n := by
  refine J_iload_n h dX8_next_56 rfl rfl ?_
  refine J_bipush h dX8_next_57 cb_8 ?_
  refine J_icmp_ge (tgt := 85) h dX8_next_59 (by decide) (fun q1 => ?_) (fun q1 => ?_)
  · skip
    refine J_iconst h dX8_next_85 ci_0 ?_
    refine J_istore_n h dX8_next_86 rfl (by decide) rfl ?_
    show J l G X Q 4 87 [.ref 58, .int x1, .int x2, .int 0] [] mu n
    exact k2 q1
  · skip
    refine J_aload_n h dX8_next_62 rfl rfl ?_
    refine J_getr (k := 24) h dX8_next_63 jc8 rfl rfl (by decide) w1008 ?_
    refine J_bipush h dX8_next_66 cb_8 ?_
    refine J_iload_n h dX8_next_68 rfl rfl ?_
    refine J_imul h dX8_next_69 ?_
    refine J_iload_n h dX8_next_70 rfl rfl ?_
    refine J_iadd h dX8_next_71 ?_
    refine J_aload_n h dX8_next_72 rfl rfl ?_
    refine J_getr (k := 11) h dX8_next_73 jc8 rfl rfl (by decide) w995 ?_
    refine J_iload_n h dX8_next_76 rfl rfl ?_
    refine J_iald h dX8_next_77 rfl (s3 q1) ?_
    refine J_iast h dX8_next_78 rfl (s4 q1) ?_
    refine J_iinc h dX8_next_79 rfl (cc_1 _) (by decide) rfl ?_
    show J l G X Q 4 82 [.ref 58, .int x1, .int x2, .int (x3 + 1)] [] (wr mu 76 (((8 * x1) + x3)).toNatClampNeg (mu 66 (x3).toNatClampNeg)) n
    refine J_goto (tgt := 56) h dX8_next_82 (by decide) ?_
    exact k5 q1
theorem rX8_next_87 {l : Launch} {G : jG} {X : jX} {Q : State → Prop} {n hg nc : Nat} {ret : Option FieldType} {mu : jM} {x1 : Int32} {x2 : Int32} {x3 : Int32} (h : jOk l G X cX8_next 4 ret RX8 hg nc) (s1 : vp_in x1 24) (s4 : ¬ (mu 61 (x1).toNatClampNeg) ≤ x3 → vp_in ((24 * x1) + x3) 576)
    (k3 : (mu 61 (x1).toNatClampNeg) ≤ x3 → J l G X Q 4 134 [.ref 58, .int x1, .int x2, .int 0] [] mu n)
    (k5 : ¬ (mu 61 (x1).toNatClampNeg) ≤ x3 → J l G X Q 4 120 [.ref 58, .int x1, .int x2, .int x3] [.int x1, .int (mu 62 (((24 * x1) + x3)).toNatClampNeg), .ref 58, .int (120 * (x2 - (x2 / 2) * 2)), .ref 71] mu n) :
    J l G X Q 4 87 [.ref 58, .int x1, .int x2, .int x3] [] mu n := by
  refine J_iload_n h dX8_next_87 rfl rfl ?_
  refine J_aload_n h dX8_next_88 rfl rfl ?_
  refine J_getr (k := 5) h dX8_next_89 jc8 rfl rfl (by decide) w989 ?_
  refine J_iload_n h dX8_next_92 rfl rfl ?_
  refine J_iald h dX8_next_93 rfl (s1) ?_
  refine J_icmp_ge (tgt := 132) h dX8_next_94 (by decide) (fun q2 => ?_) (fun q2 => ?_)
  · skip
    refine J_iconst h dX8_next_132 ci_0 ?_
    refine J_istore_n h dX8_next_133 rfl (by decide) rfl ?_
    show J l G X Q 4 134 [.ref 58, .int x1, .int x2, .int 0] [] mu n
    exact k3 q2
  · skip
    refine J_aload_n h dX8_next_97 rfl rfl ?_
    refine J_getr (k := 16) h dX8_next_98 jc8 rfl rfl (by decide) w1000 ?_
    refine J_bipush h dX8_next_101 cb_120 ?_
    refine J_iload_n h dX8_next_103 rfl rfl ?_
    refine J_iconst h dX8_next_104 ci_2 ?_
    refine J_irem h dX8_next_105 (by decide) ?_
    refine J_imul h dX8_next_106 ?_
    refine J_aload_n h dX8_next_107 rfl rfl ?_
    refine J_aload_n h dX8_next_108 rfl rfl ?_
    refine J_getr (k := 6) h dX8_next_109 jc8 rfl rfl (by decide) w990 ?_
    refine J_bipush h dX8_next_112 cb_24 ?_
    refine J_iload_n h dX8_next_114 rfl rfl ?_
    refine J_imul h dX8_next_115 ?_
    refine J_iload_n h dX8_next_116 rfl rfl ?_
    refine J_iadd h dX8_next_117 ?_
    refine J_iald h dX8_next_118 rfl (s4 q2) ?_
    refine J_iload_n h dX8_next_119 rfl rfl ?_
    exact k5 q2
theorem rX8_next_134 {l : Launch} {G : jG} {X : jX} {Q : State → Prop} {n hg nc : Nat} {ret : Option FieldType} {mu : jM} {x1 : Int32} {x2 : Int32} {x3 : Int32} (h : jOk l G X cX8_next 4 ret RX8 hg nc)
    (k2 : 8 ≤ x3 → J l G X Q 4 160 [.ref 58, .int x1, .int x2, .int x3] [.int x1, .ref 58] mu n)
    (k3 : ¬ 8 ≤ x3 → J l G X Q 4 147 [.ref 58, .int x1, .int x2, .int x3] [.int x2, .int x3, .int x1, .ref 81] mu n) :
    J l G X Q 4 134 [.ref 58, .int x1, .int x2, .int x3] [] mu n := by
  refine J_iload_n h dX8_next_134 rfl rfl ?_
  refine J_bipush h dX8_next_135 cb_8 ?_
  refine J_icmp_ge (tgt := 158) h dX8_next_137 (by decide) (fun q1 => ?_) (fun q1 => ?_)
  · skip
    refine J_aload_n h dX8_next_158 rfl rfl ?_
    refine J_iload_n h dX8_next_159 rfl rfl ?_
    exact k2 q1
  · skip
    refine J_aload_n h dX8_next_140 rfl rfl ?_
    refine J_getr (k := 29) h dX8_next_141 jc8 rfl rfl (by decide) w1013 ?_
    refine J_iload_n h dX8_next_144 rfl rfl ?_
    refine J_iload_n h dX8_next_145 rfl rfl ?_
    refine J_iload_n h dX8_next_146 rfl rfl ?_
    exact k3 q1
theorem rX8_next_120 {l : Launch} {G : jG} {X : jX} {Q : State → Prop} {n hg nc : Nat} {ret : Option FieldType} {mu : jM} {x1 : Int32} {x2 : Int32} {x3 : Int32} {y0 : Int32} {y1 : Int32} {y3 : Int32} {Qc : Int32 → jM → Prop} {h' : Nat} (h : jOk l G X cX8_next 4 ret RX8 hg nc) (hM : jCi l G yX8_towards cX8_towards 3 h' (some .int) (.ref 58 :: [.int y1, .int y0]) mu Qc) (hh : h' < hg ∧ 3 ≤ 21) (hn : n ≤ nc)
    (kk : ∀ v mu', Qc v mu' → J l G X Q 4 123 [.ref 58, .int x1, .int x2, .int x3] (.int v :: [.int y3, .ref 71]) mu' n) :
    J l G X Q 4 120 [.ref 58, .int x1, .int x2, .int x3] [.int y0, .int y1, .ref 58, .int y3, .ref 71] mu n :=
  J_callVi (As := [.int y1, .int y0]) (rest := [.int y3, .ref 71]) h dX8_next_120 hM (jgV w1223 w1225 w46 w84 w1226) rfl (ci := 8) rfl rfl nmX8_towards rfl hh (Nat.le_of_ble_eq_true rfl) rfl kk hn
theorem rX8_next_160 {l : Launch} {G : jG} {X : jX} {Q : State → Prop} {n hg nc : Nat} {ret : Option FieldType} {mu : jM} {x1 : Int32} {x2 : Int32} {x3 : Int32} {y0 : Int32} {Qc : jM → Prop} {h' : Nat} (h : jOk l G X cX8_next 4 ret RX8 hg nc) (hM : jCv l G yX8_clearNode cX8_clearNode 2 h' (.ref 58 :: [.int y0]) mu Qc) (hh : h' < hg ∧ 2 ≤ 21) (hn : n ≤ nc)
    (kk : ∀ mu', Qc mu' → J l G X Q 4 163 [.ref 58, .int x1, .int x2, .int x3] [] mu' n) :
    J l G X Q 4 160 [.ref 58, .int x1, .int x2, .int x3] [.int y0, .ref 58] mu n :=
  J_callV (As := [.int y0]) (rest := []) h dX8_next_160 hM (jgV w1281 w1283 w57 w84 w1284) rfl (ci := 8) rfl rfl nmX8_clearNode rfl hh (Nat.le_of_ble_eq_true rfl) rfl kk hn
theorem rX8_next_147 {l : Launch} {G : jG} {X : jX} {Q : State → Prop} {n hg nc : Nat} {ret : Option FieldType} {mu : jM} {x1 : Int32} {x2 : Int32} {x3 : Int32} {y0 : Int32} {y1 : Int32} {y2 : Int32} {Qc : Int32 → jM → Prop} {h' : Nat} (h : jOk l G X cX8_next 4 ret RX8 hg nc) (hM : jCi l G yX8_spot cX8_spot 3 h' (some .int) [.int y2, .int y1, .int y0] mu Qc) (hh : h' < hg ∧ 3 ≤ 21) (hn : n ≤ nc)
    (kk : ∀ v mu', Qc v mu' → J l G X Q 4 150 [.ref 58, .int x1, .int x2, .int x3] (.int v :: [.ref 81]) mu' n) :
    J l G X Q 4 147 [.ref 58, .int x1, .int x2, .int x3] [.int y0, .int y1, .int y2, .ref 81] mu n :=
  J_callSi (As := [.int y2, .int y1, .int y0]) (rest := [.ref 81]) h dX8_next_147 hM (jgS w1321 w1322 w84 w1323) nmX8_spot rfl hh (Nat.le_of_ble_eq_true rfl) rfl kk hn
theorem rX8_next_123 {l : Launch} {G : jG} {X : jX} {Q : State → Prop} {n hg nc : Nat} {ret : Option FieldType} {mu : jM} {x1 : Int32} {x2 : Int32} {x3 : Int32} {y0 : Int32} {y1 : Int32} (h : jOk l G X cX8_next 4 ret RX8 hg nc) (s1 : vp_in (y1 + y0) 240)
    (k2 : J l G X Q 4 87 [.ref 58, .int x1, .int x2, .int (x3 + 1)] [] (wr mu 71 ((y1 + y0)).toNatClampNeg (vp_nar .boolean 0)) n) :
    J l G X Q 4 123 [.ref 58, .int x1, .int x2, .int x3] [.int y0, .int y1, .ref 71] mu n := by
  refine J_iadd h dX8_next_123 ?_
  refine J_iconst h dX8_next_124 ci_0 ?_
  refine J_zast h dX8_next_125 rfl (s1) ?_
  refine J_iinc h dX8_next_126 rfl (cc_1 _) (by decide) rfl ?_
  show J l G X Q 4 129 [.ref 58, .int x1, .int x2, .int (x3 + 1)] [] (wr mu 71 ((y1 + y0)).toNatClampNeg (vp_nar .boolean 0)) n
  refine J_goto (tgt := 87) h dX8_next_129 (by decide) ?_
  exact k2
theorem rX8_next_163 {l : Launch} {G : jG} {X : jX} {Q : State → Prop} {n hg nc : Nat} {ret : Option FieldType} {mu : jM} {x1 : Int32} {x2 : Int32} {x3 : Int32} (h : jOk l G X cX8_next 4 ret RX8 hg nc) (s1 : vp_in x1 24)
    (k2 : J l G X Q 4 173 [.ref 58, .int x1, .int x2, .int x3] [.ref 58] (wr mu 75 (x1).toNatClampNeg (x2 + 1)) n) :
    J l G X Q 4 163 [.ref 58, .int x1, .int x2, .int x3] [] mu n := by
  refine J_aload_n h dX8_next_163 rfl rfl ?_
  refine J_getr (k := 23) h dX8_next_164 jc8 rfl rfl (by decide) w1007 ?_
  refine J_iload_n h dX8_next_167 rfl rfl ?_
  refine J_iload_n h dX8_next_168 rfl rfl ?_
  refine J_iconst h dX8_next_169 ci_1 ?_
  refine J_iadd h dX8_next_170 ?_
  refine J_iast h dX8_next_171 rfl (s1) ?_
  refine J_aload_n h dX8_next_172 rfl rfl ?_
  exact k2
theorem rX8_next_150 {l : Launch} {G : jG} {X : jX} {Q : State → Prop} {n hg nc : Nat} {ret : Option FieldType} {mu : jM} {x1 : Int32} {x2 : Int32} {x3 : Int32} {y0 : Int32} (h : jOk l G X cX8_next 4 ret RX8 hg nc) (s1 : vp_in y0 384)
    (k2 : J l G X Q 4 134 [.ref 58, .int x1, .int x2, .int (x3 + 1)] [] (wr mu 81 (y0).toNatClampNeg 0) n) :
    J l G X Q 4 150 [.ref 58, .int x1, .int x2, .int x3] [.int y0, .ref 81] mu n := by
  refine J_iconst h dX8_next_150 ci_0 ?_
  refine J_iast h dX8_next_151 rfl (s1) ?_
  refine J_iinc h dX8_next_152 rfl (cc_1 _) (by decide) rfl ?_
  show J l G X Q 4 155 [.ref 58, .int x1, .int x2, .int (x3 + 1)] [] (wr mu 81 (y0).toNatClampNeg 0) n
  refine J_goto (tgt := 134) h dX8_next_155 (by decide) ?_
  exact k2
theorem rX8_next_173 {l : Launch} {G : jG} {X : jX} {Q : State → Prop} {n hg nc : Nat} {ret : Option FieldType} {mu : jM} {x1 : Int32} {x2 : Int32} {x3 : Int32} {Qc : jM → Prop} {h' : Nat} (h : jOk l G X cX8_next 4 ret RX8 hg nc) (hM : jCv l G yX8_measure cX8_measure 4 h' (.ref 58 :: []) mu Qc) (hh : h' < hg ∧ 4 ≤ 21) (hn : n ≤ nc)
    (kk : ∀ mu', Qc mu' → J l G X Q 4 176 [.ref 58, .int x1, .int x2, .int x3] [] mu' n) :
    J l G X Q 4 173 [.ref 58, .int x1, .int x2, .int x3] [.ref 58] mu n :=
  J_callV (As := []) (rest := []) h dX8_next_173 hM (jgV w1332 w1334 w67 w84 w1335) rfl (ci := 8) rfl rfl nmX8_measure rfl hh (Nat.le_of_ble_eq_true rfl) rfl kk hn
theorem rX8_next_176 {l : Launch} {G : jG} {X : jX} {Q : State → Prop} {n hg nc : Nat} {ret : Option FieldType} {mu : jM} {x1 : Int32} {x2 : Int32} {x3 : Int32} (h : jOk l G X cX8_next 4 ret RX8 hg nc)
    (k1 : J l G X Q 4 178 [.ref 58, .int x1, .int x2, .int 0] [] mu n) :
    J l G X Q 4 176 [.ref 58, .int x1, .int x2, .int x3] [] mu n := by
  refine J_iconst h dX8_next_176 ci_0 ?_
  refine J_istore_n h dX8_next_177 rfl (by decide) rfl ?_
  show J l G X Q 4 178 [.ref 58, .int x1, .int x2, .int 0] [] mu n
  exact k1
theorem rX8_next_178 {l : Launch} {G : jG} {X : jX} {Q : State → Prop} {n hg nc : Nat} {ret : Option FieldType} {mu : jM} {x1 : Int32} {x2 : Int32} {x3 : Int32} (h : jOk l G X cX8_next 4 ret RX8 hg nc) (s1 : vp_in x1 24) (s4 : ¬ (mu 61 (x1).toNatClampNeg) ≤ x3 → vp_in x3 24) (s7 : ¬ (mu 61 (x1).toNatClampNeg) ≤ x3 → ¬ (mu 69 (x3).toNatClampNeg) = 0 → vp_in x1 24) (s8 : ¬ (mu 61 (x1).toNatClampNeg) ≤ x3 → ¬ (mu 69 (x3).toNatClampNeg) = 0 → vp_in x1 24) (s9 : ¬ (mu 61 (x1).toNatClampNeg) ≤ x3 → ¬ (mu 69 (x3).toNatClampNeg) = 0 → vp_in ((24 * x1) + x3) 576)
    (k3 : (mu 61 (x1).toNatClampNeg) ≤ x3 → J l G X Q 4 244 [.ref 58, .int x1, .int x2, .int x3] [] mu n)
    (k6 : ¬ (mu 61 (x1).toNatClampNeg) ≤ x3 → (mu 69 (x3).toNatClampNeg) = 0 → J l G X Q 4 238 [.ref 58, .int x1, .int x2, .int x3] [] mu n)
    (k10 : ¬ (mu 61 (x1).toNatClampNeg) ≤ x3 → ¬ (mu 69 (x3).toNatClampNeg) = 0 → J l G X Q 4 223 [.ref 58, .int x1, .int x2, .int x3] [.int x1, .int (mu 62 (((24 * x1) + x3)).toNatClampNeg), .ref 58, .int x1, .int 0, .ref 58] (wr mu 77 (x1).toNatClampNeg ((mu 77 (x1).toNatClampNeg) + 1)) n) :
    J l G X Q 4 178 [.ref 58, .int x1, .int x2, .int x3] [] mu n := by
  refine J_iload_n h dX8_next_178 rfl rfl ?_
  refine J_aload_n h dX8_next_179 rfl rfl ?_
  refine J_getr (k := 5) h dX8_next_180 jc8 rfl rfl (by decide) w989 ?_
  refine J_iload_n h dX8_next_183 rfl rfl ?_
  refine J_iald h dX8_next_184 rfl (s1) ?_
  refine J_icmp_ge (tgt := 244) h dX8_next_185 (by decide) (fun q2 => ?_) (fun q2 => ?_)
  · skip
    exact k3 q2
  · skip
    refine J_aload_n h dX8_next_188 rfl rfl ?_
    refine J_getr (k := 14) h dX8_next_189 jc8 rfl rfl (by decide) w998 ?_
    refine J_iload_n h dX8_next_192 rfl rfl ?_
    refine J_zald h dX8_next_193 rfl (s4 q2) ?_
    refine J_if_eq (tgt := 238) h dX8_next_194 (by decide) (fun q5 => ?_) (fun q5 => ?_)
    · skip
      exact k6 q2 q5
    · skip
      refine J_aload_n h dX8_next_197 rfl rfl ?_
      refine J_getr (k := 25) h dX8_next_198 jc8 rfl rfl (by decide) w1009 ?_
      refine J_iload_n h dX8_next_201 rfl rfl ?_
      refine J_dup2 h dX8_next_202 rfl rfl ?_
      refine J_iald h dX8_next_203 rfl (s7 q2 q5) ?_
      refine J_iconst h dX8_next_204 ci_1 ?_
      refine J_iadd h dX8_next_205 ?_
      refine J_iast h dX8_next_206 rfl (s8 q2 q5) ?_
      refine J_aload_n h dX8_next_207 rfl rfl ?_
      refine J_iconst h dX8_next_208 ci_0 ?_
      refine J_iload_n h dX8_next_209 rfl rfl ?_
      refine J_aload_n h dX8_next_210 rfl rfl ?_
      refine J_aload_n h dX8_next_211 rfl rfl ?_
      refine J_getr (k := 6) h dX8_next_212 jc8 rfl rfl (by decide) w990 ?_
      refine J_bipush h dX8_next_215 cb_24 ?_
      refine J_iload_n h dX8_next_217 rfl rfl ?_
      refine J_imul h dX8_next_218 ?_
      refine J_iload_n h dX8_next_219 rfl rfl ?_
      refine J_iadd h dX8_next_220 ?_
      refine J_iald h dX8_next_221 rfl (s9 q2 q5) ?_
      refine J_iload_n h dX8_next_222 rfl rfl ?_
      exact k10 q2 q5
theorem rX8_next_238 {l : Launch} {G : jG} {X : jX} {Q : State → Prop} {n hg nc : Nat} {ret : Option FieldType} {mu : jM} {x1 : Int32} {x2 : Int32} {x3 : Int32} (h : jOk l G X cX8_next 4 ret RX8 hg nc)
    (k1 : J l G X Q 4 178 [.ref 58, .int x1, .int x2, .int (x3 + 1)] [] mu n) :
    J l G X Q 4 238 [.ref 58, .int x1, .int x2, .int x3] [] mu n := by
  refine J_iinc h dX8_next_238 rfl (cc_1 _) (by decide) rfl ?_
  show J l G X Q 4 241 [.ref 58, .int x1, .int x2, .int (x3 + 1)] [] mu n
  refine J_goto (tgt := 178) h dX8_next_241 (by decide) ?_
  exact k1
theorem rX8_next_223 {l : Launch} {G : jG} {X : jX} {Q : State → Prop} {n hg nc : Nat} {ret : Option FieldType} {mu : jM} {x1 : Int32} {x2 : Int32} {x3 : Int32} {y0 : Int32} {y1 : Int32} {y3 : Int32} {y4 : Int32} {Qc : Int32 → jM → Prop} {h' : Nat} (h : jOk l G X cX8_next 4 ret RX8 hg nc) (hM : jCi l G yX8_otherEnd cX8_otherEnd 3 h' (some .int) (.ref 58 :: [.int y1, .int y0]) mu Qc) (hh : h' < hg ∧ 3 ≤ 21) (hn : n ≤ nc)
    (kk : ∀ v mu', Qc v mu' → J l G X Q 4 226 [.ref 58, .int x1, .int x2, .int x3] (.int v :: [.int y3, .int y4, .ref 58]) mu' n) :
    J l G X Q 4 223 [.ref 58, .int x1, .int x2, .int x3] [.int y0, .int y1, .ref 58, .int y3, .int y4, .ref 58] mu n :=
  J_callVi (As := [.int y1, .int y0]) (rest := [.int y3, .int y4, .ref 58]) h dX8_next_223 hM (jgV w1245 w1247 w50 w84 w1248) rfl (ci := 8) rfl rfl nmX8_otherEnd rfl hh (Nat.le_of_ble_eq_true rfl) rfl kk hn
theorem rX8_next_226 {l : Launch} {G : jG} {X : jX} {Q : State → Prop} {n hg nc : Nat} {ret : Option FieldType} {mu : jM} {x1 : Int32} {x2 : Int32} {x3 : Int32} {y0 : Int32} {y1 : Int32} {y2 : Int32} (h : jOk l G X cX8_next 4 ret RX8 hg nc) (s1 : vp_in x3 24)
    (k2 : J l G X Q 4 235 [.ref 58, .int x1, .int x2, .int x3] [.int (mu 70 (x3).toNatClampNeg), .int (x2 + 1), .int y0, .int y1, .int y2, .ref 58] mu n) :
    J l G X Q 4 226 [.ref 58, .int x1, .int x2, .int x3] [.int y0, .int y1, .int y2, .ref 58] mu n := by
  refine J_iload_n h dX8_next_226 rfl rfl ?_
  refine J_iconst h dX8_next_227 ci_1 ?_
  refine J_iadd h dX8_next_228 ?_
  refine J_aload_n h dX8_next_229 rfl rfl ?_
  refine J_getr (k := 15) h dX8_next_230 jc8 rfl rfl (by decide) w999 ?_
  refine J_iload_n h dX8_next_233 rfl rfl ?_
  refine J_iald h dX8_next_234 rfl (s1) ?_
  exact k2
theorem rX8_next_235 {l : Launch} {G : jG} {X : jX} {Q : State → Prop} {n hg nc : Nat} {ret : Option FieldType} {mu : jM} {x1 : Int32} {x2 : Int32} {x3 : Int32} {y0 : Int32} {y1 : Int32} {y2 : Int32} {y3 : Int32} {y4 : Int32} {Qc : jM → Prop} {h' : Nat} (h : jOk l G X cX8_next 4 ret RX8 hg nc) (hM : jCv l G yX8_send cX8_send 7 h' (.ref 58 :: [.int y4, .int y3, .int y2, .int y1, .int y0]) mu Qc) (hh : h' < hg ∧ 7 ≤ 21) (hn : n ≤ nc)
    (kk : ∀ mu', Qc mu' → J l G X Q 4 238 [.ref 58, .int x1, .int x2, .int x3] [] mu' n) :
    J l G X Q 4 235 [.ref 58, .int x1, .int x2, .int x3] [.int y0, .int y1, .int y2, .int y3, .int y4, .ref 58] mu n :=
  J_callV (As := [.int y4, .int y3, .int y2, .int y1, .int y0]) (rest := []) h dX8_next_235 hM (jgV w1313 w1315 w63 w84 w1316) rfl (ci := 8) rfl rfl nmX8_send rfl hh (Nat.le_of_ble_eq_true rfl) rfl kk hn
/-! LockstepNetModel.toNeighbours(II)V -/
theorem rX8_toNeighbours_0 {l : Launch} {G : jG} {X : jX} {Q : State → Prop} {n hg nc : Nat} {ret : Option FieldType} {mu : jM} {x1 : Int32} {x2 : Int32} (h : jOk l G X cX8_toNeighbours 4 ret RX8 hg nc)
    (k1 : J l G X Q 4 2 [.ref 58, .int x1, .int x2, .int 0] [] mu n) :
    J l G X Q 4 0 [.ref 58, .int x1, .int x2, .float 0] [] mu n := by
  refine J_iconst h dX8_toNeighbours_0 ci_0 ?_
  refine J_istore_n h dX8_toNeighbours_1 rfl (by decide) rfl ?_
  show J l G X Q 4 2 [.ref 58, .int x1, .int x2, .int 0] [] mu n
  exact k1
theorem rX8_toNeighbours_2 {l : Launch} {G : jG} {X : jX} {Q : State → Prop} {n hg nc : Nat} {ret : Option FieldType} {mu : jM} {x1 : Int32} {x2 : Int32} {x3 : Int32} (h : jOk l G X cX8_toNeighbours 4 ret RX8 hg nc) (s1 : vp_in x1 24) (s4 : ¬ (mu 61 (x1).toNatClampNeg) ≤ x3 → vp_in ((24 * x1) + x3) 576)
    (k3 : (mu 61 (x1).toNatClampNeg) ≤ x3 → J l G X Q 4 47 [.ref 58, .int x1, .int x2, .int x3] [] mu n)
    (k5 : ¬ (mu 61 (x1).toNatClampNeg) ≤ x3 → J l G X Q 4 28 [.ref 58, .int x1, .int x2, .int x3] [.int x1, .int (mu 62 (((24 * x1) + x3)).toNatClampNeg), .ref 58, .int x1, .int x2, .ref 58] mu n) :
    J l G X Q 4 2 [.ref 58, .int x1, .int x2, .int x3] [] mu n := by
  refine J_iload_n h dX8_toNeighbours_2 rfl rfl ?_
  refine J_aload_n h dX8_toNeighbours_3 rfl rfl ?_
  refine J_getr (k := 5) h dX8_toNeighbours_4 jc8 rfl rfl (by decide) w989 ?_
  refine J_iload_n h dX8_toNeighbours_7 rfl rfl ?_
  refine J_iald h dX8_toNeighbours_8 rfl (s1) ?_
  refine J_icmp_ge (tgt := 47) h dX8_toNeighbours_9 (by decide) (fun q2 => ?_) (fun q2 => ?_)
  · skip
    exact k3 q2
  · skip
    refine J_aload_n h dX8_toNeighbours_12 rfl rfl ?_
    refine J_iload_n h dX8_toNeighbours_13 rfl rfl ?_
    refine J_iload_n h dX8_toNeighbours_14 rfl rfl ?_
    refine J_aload_n h dX8_toNeighbours_15 rfl rfl ?_
    refine J_aload_n h dX8_toNeighbours_16 rfl rfl ?_
    refine J_getr (k := 6) h dX8_toNeighbours_17 jc8 rfl rfl (by decide) w990 ?_
    refine J_bipush h dX8_toNeighbours_20 cb_24 ?_
    refine J_iload_n h dX8_toNeighbours_22 rfl rfl ?_
    refine J_imul h dX8_toNeighbours_23 ?_
    refine J_iload_n h dX8_toNeighbours_24 rfl rfl ?_
    refine J_iadd h dX8_toNeighbours_25 ?_
    refine J_iald h dX8_toNeighbours_26 rfl (s4 q2) ?_
    refine J_iload_n h dX8_toNeighbours_27 rfl rfl ?_
    exact k5 q2
theorem rX8_toNeighbours_28 {l : Launch} {G : jG} {X : jX} {Q : State → Prop} {n hg nc : Nat} {ret : Option FieldType} {mu : jM} {x1 : Int32} {x2 : Int32} {x3 : Int32} {y0 : Int32} {y1 : Int32} {y3 : Int32} {y4 : Int32} {Qc : Int32 → jM → Prop} {h' : Nat} (h : jOk l G X cX8_toNeighbours 4 ret RX8 hg nc) (hM : jCi l G yX8_otherEnd cX8_otherEnd 3 h' (some .int) (.ref 58 :: [.int y1, .int y0]) mu Qc) (hh : h' < hg ∧ 3 ≤ 21) (hn : n ≤ nc)
    (kk : ∀ v mu', Qc v mu' → J l G X Q 4 31 [.ref 58, .int x1, .int x2, .int x3] (.int v :: [.int y3, .int y4, .ref 58]) mu' n) :
    J l G X Q 4 28 [.ref 58, .int x1, .int x2, .int x3] [.int y0, .int y1, .ref 58, .int y3, .int y4, .ref 58] mu n :=
  J_callVi (As := [.int y1, .int y0]) (rest := [.int y3, .int y4, .ref 58]) h dX8_toNeighbours_28 hM (jgV w1245 w1247 w50 w84 w1248) rfl (ci := 8) rfl rfl nmX8_otherEnd rfl hh (Nat.le_of_ble_eq_true rfl) rfl kk hn
theorem rX8_toNeighbours_31 {l : Launch} {G : jG} {X : jX} {Q : State → Prop} {n hg nc : Nat} {ret : Option FieldType} {mu : jM} {x1 : Int32} {x2 : Int32} {x3 : Int32} {y0 : Int32} {y1 : Int32} {y2 : Int32} (h : jOk l G X cX8_toNeighbours 4 ret RX8 hg nc) (s1 : vp_in x1 24)
    (k2 : J l G X Q 4 38 [.ref 58, .int x1, .int x2, .int x3] [.int 0, .int (mu 75 (x1).toNatClampNeg), .int y0, .int y1, .int y2, .ref 58] mu n) :
    J l G X Q 4 31 [.ref 58, .int x1, .int x2, .int x3] [.int y0, .int y1, .int y2, .ref 58] mu n := by
  refine J_aload_n h dX8_toNeighbours_31 rfl rfl ?_
  refine J_getr (k := 23) h dX8_toNeighbours_32 jc8 rfl rfl (by decide) w1007 ?_
  refine J_iload_n h dX8_toNeighbours_35 rfl rfl ?_
  refine J_iald h dX8_toNeighbours_36 rfl (s1) ?_
  refine J_iconst h dX8_toNeighbours_37 ci_0 ?_
  exact k2
theorem rX8_toNeighbours_38 {l : Launch} {G : jG} {X : jX} {Q : State → Prop} {n hg nc : Nat} {ret : Option FieldType} {mu : jM} {x1 : Int32} {x2 : Int32} {x3 : Int32} {y0 : Int32} {y1 : Int32} {y2 : Int32} {y3 : Int32} {y4 : Int32} {Qc : jM → Prop} {h' : Nat} (h : jOk l G X cX8_toNeighbours 4 ret RX8 hg nc) (hM : jCv l G yX8_send cX8_send 7 h' (.ref 58 :: [.int y4, .int y3, .int y2, .int y1, .int y0]) mu Qc) (hh : h' < hg ∧ 7 ≤ 21) (hn : n ≤ nc)
    (kk : ∀ mu', Qc mu' → J l G X Q 4 41 [.ref 58, .int x1, .int x2, .int x3] [] mu' n) :
    J l G X Q 4 38 [.ref 58, .int x1, .int x2, .int x3] [.int y0, .int y1, .int y2, .int y3, .int y4, .ref 58] mu n :=
  J_callV (As := [.int y4, .int y3, .int y2, .int y1, .int y0]) (rest := []) h dX8_toNeighbours_38 hM (jgV w1313 w1315 w63 w84 w1316) rfl (ci := 8) rfl rfl nmX8_send rfl hh (Nat.le_of_ble_eq_true rfl) rfl kk hn
theorem rX8_toNeighbours_41 {l : Launch} {G : jG} {X : jX} {Q : State → Prop} {n hg nc : Nat} {ret : Option FieldType} {mu : jM} {x1 : Int32} {x2 : Int32} {x3 : Int32} (h : jOk l G X cX8_toNeighbours 4 ret RX8 hg nc)
    (k1 : J l G X Q 4 2 [.ref 58, .int x1, .int x2, .int (x3 + 1)] [] mu n) :
    J l G X Q 4 41 [.ref 58, .int x1, .int x2, .int x3] [] mu n := by
  refine J_iinc h dX8_toNeighbours_41 rfl (cc_1 _) (by decide) rfl ?_
  show J l G X Q 4 44 [.ref 58, .int x1, .int x2, .int (x3 + 1)] [] mu n
  refine J_goto (tgt := 2) h dX8_toNeighbours_44 (by decide) ?_
  exact k1
/-! LockstepNetModel.toChildren(IIZ)V -/
theorem rX8_toChildren_0 {l : Launch} {G : jG} {X : jX} {Q : State → Prop} {n hg nc : Nat} {ret : Option FieldType} {mu : jM} {x1 : Int32} {x2 : Int32} {x3 : Int32} (h : jOk l G X cX8_toChildren 5 ret RX8 hg nc)
    (k1 : J l G X Q 5 3 [.ref 58, .int x1, .int x2, .int x3, .int 0] [] mu n) :
    J l G X Q 5 0 [.ref 58, .int x1, .int x2, .int x3, .float 0] [] mu n := by
  refine J_iconst h dX8_toChildren_0 ci_0 ?_
  refine J_istore h dX8_toChildren_1 (by decide) rfl ?_
  show J l G X Q 5 3 [.ref 58, .int x1, .int x2, .int x3, .int 0] [] mu n
  exact k1
theorem rX8_toChildren_3 {l : Launch} {G : jG} {X : jX} {Q : State → Prop} {n hg nc : Nat} {ret : Option FieldType} {mu : jM} {x1 : Int32} {x2 : Int32} {x3 : Int32} {x4 : Int32} (h : jOk l G X cX8_toChildren 5 ret RX8 hg nc) (s4 : ¬ (mu 58 1) ≤ x4 → x3 = 0 → vp_in x4 24) (s7 : ¬ (mu 58 1) ≤ x4 → x3 = 0 → x1 = (mu 82 (x4).toNatClampNeg) → vp_in x1 24) (s9 : ¬ (mu 58 1) ≤ x4 → ¬ x3 = 0 → vp_in x4 24) (s12 : ¬ (mu 58 1) ≤ x4 → ¬ x3 = 0 → x1 = (mu 85 (x4).toNatClampNeg) → vp_in x1 24)
    (k2 : (mu 58 1) ≤ x4 → J l G X Q 5 58 [.ref 58, .int x1, .int x2, .int x3, .int x4] [] mu n)
    (k6 : ¬ (mu 58 1) ≤ x4 → x3 = 0 → ¬ x1 = (mu 82 (x4).toNatClampNeg) → J l G X Q 5 52 [.ref 58, .int x1, .int x2, .int x3, .int x4] [] mu n)
    (k8 : ¬ (mu 58 1) ≤ x4 → x3 = 0 → x1 = (mu 82 (x4).toNatClampNeg) → J l G X Q 5 49 [.ref 58, .int x1, .int x2, .int x3, .int x4] [.int 0, .int (mu 75 (x1).toNatClampNeg), .int x4, .int x1, .int x2, .ref 58] mu n)
    (k11 : ¬ (mu 58 1) ≤ x4 → ¬ x3 = 0 → ¬ x1 = (mu 85 (x4).toNatClampNeg) → J l G X Q 5 52 [.ref 58, .int x1, .int x2, .int x3, .int x4] [] mu n)
    (k13 : ¬ (mu 58 1) ≤ x4 → ¬ x3 = 0 → x1 = (mu 85 (x4).toNatClampNeg) → J l G X Q 5 49 [.ref 58, .int x1, .int x2, .int x3, .int x4] [.int 0, .int (mu 75 (x1).toNatClampNeg), .int x4, .int x1, .int x2, .ref 58] mu n) :
    J l G X Q 5 3 [.ref 58, .int x1, .int x2, .int x3, .int x4] [] mu n := by
  refine J_iload h dX8_toChildren_3 rfl ?_
  refine J_aload_n h dX8_toChildren_5 rfl rfl ?_
  refine J_geti (k := 1) h dX8_toChildren_6 jc8 rfl rfl (by decide) w985 ?_
  refine J_icmp_ge (tgt := 58) h dX8_toChildren_9 (by decide) (fun q1 => ?_) (fun q1 => ?_)
  · skip
    exact k2 q1
  · skip
    refine J_iload_n h dX8_toChildren_12 rfl rfl ?_
    refine J_iload_n h dX8_toChildren_13 rfl rfl ?_
    refine J_if_eq (tgt := 27) h dX8_toChildren_14 (by decide) (fun q3 => ?_) (fun q3 => ?_)
    · skip
      refine J_aload_n h dX8_toChildren_27 rfl rfl ?_
      refine J_getr (k := 30) h dX8_toChildren_28 jc8 rfl rfl (by decide) w1014 ?_
      refine J_iload h dX8_toChildren_31 rfl ?_
      refine J_iald h dX8_toChildren_33 rfl (s4 q1 q3) ?_
      refine J_icmp_ne (tgt := 52) h dX8_toChildren_34 (by decide) (fun q5 => ?_) (fun q5 => ?_)
      · skip
        exact k6 q1 q3 q5
      · skip
        refine J_aload_n h dX8_toChildren_37 rfl rfl ?_
        refine J_iload_n h dX8_toChildren_38 rfl rfl ?_
        refine J_iload_n h dX8_toChildren_39 rfl rfl ?_
        refine J_iload h dX8_toChildren_40 rfl ?_
        refine J_aload_n h dX8_toChildren_42 rfl rfl ?_
        refine J_getr (k := 23) h dX8_toChildren_43 jc8 rfl rfl (by decide) w1007 ?_
        refine J_iload_n h dX8_toChildren_46 rfl rfl ?_
        refine J_iald h dX8_toChildren_47 rfl (s7 q1 q3 q5) ?_
        refine J_iconst h dX8_toChildren_48 ci_0 ?_
        exact k8 q1 q3 q5
    · skip
      refine J_aload_n h dX8_toChildren_17 rfl rfl ?_
      refine J_getr (k := 34) h dX8_toChildren_18 jc8 rfl rfl (by decide) w1018 ?_
      refine J_iload h dX8_toChildren_21 rfl ?_
      refine J_iald h dX8_toChildren_23 rfl (s9 q1 q3) ?_
      refine J_goto (tgt := 34) h dX8_toChildren_24 (by decide) ?_
      refine J_icmp_ne (tgt := 52) h dX8_toChildren_34 (by decide) (fun q10 => ?_) (fun q10 => ?_)
      · skip
        exact k11 q1 q3 q10
      · skip
        refine J_aload_n h dX8_toChildren_37 rfl rfl ?_
        refine J_iload_n h dX8_toChildren_38 rfl rfl ?_
        refine J_iload_n h dX8_toChildren_39 rfl rfl ?_
        refine J_iload h dX8_toChildren_40 rfl ?_
        refine J_aload_n h dX8_toChildren_42 rfl rfl ?_
        refine J_getr (k := 23) h dX8_toChildren_43 jc8 rfl rfl (by decide) w1007 ?_
        refine J_iload_n h dX8_toChildren_46 rfl rfl ?_
        refine J_iald h dX8_toChildren_47 rfl (s12 q1 q3 q10) ?_
        refine J_iconst h dX8_toChildren_48 ci_0 ?_
        exact k13 q1 q3 q10
theorem rX8_toChildren_52 {l : Launch} {G : jG} {X : jX} {Q : State → Prop} {n hg nc : Nat} {ret : Option FieldType} {mu : jM} {x1 : Int32} {x2 : Int32} {x3 : Int32} {x4 : Int32} (h : jOk l G X cX8_toChildren 5 ret RX8 hg nc)
    (k1 : J l G X Q 5 3 [.ref 58, .int x1, .int x2, .int x3, .int (x4 + 1)] [] mu n) :
    J l G X Q 5 52 [.ref 58, .int x1, .int x2, .int x3, .int x4] [] mu n := by
  refine J_iinc h dX8_toChildren_52 rfl (cc_1 _) (by decide) rfl ?_
  show J l G X Q 5 55 [.ref 58, .int x1, .int x2, .int x3, .int (x4 + 1)] [] mu n
  refine J_goto (tgt := 3) h dX8_toChildren_55 (by decide) ?_
  exact k1
theorem rX8_toChildren_49 {l : Launch} {G : jG} {X : jX} {Q : State → Prop} {n hg nc : Nat} {ret : Option FieldType} {mu : jM} {x1 : Int32} {x2 : Int32} {x3 : Int32} {x4 : Int32} {y0 : Int32} {y1 : Int32} {y2 : Int32} {y3 : Int32} {y4 : Int32} {Qc : jM → Prop} {h' : Nat} (h : jOk l G X cX8_toChildren 5 ret RX8 hg nc) (hM : jCv l G yX8_send cX8_send 7 h' (.ref 58 :: [.int y4, .int y3, .int y2, .int y1, .int y0]) mu Qc) (hh : h' < hg ∧ 7 ≤ 21) (hn : n ≤ nc)
    (kk : ∀ mu', Qc mu' → J l G X Q 5 52 [.ref 58, .int x1, .int x2, .int x3, .int x4] [] mu' n) :
    J l G X Q 5 49 [.ref 58, .int x1, .int x2, .int x3, .int x4] [.int y0, .int y1, .int y2, .int y3, .int y4, .ref 58] mu n :=
  J_callV (As := [.int y4, .int y3, .int y2, .int y1, .int y0]) (rest := []) h dX8_toChildren_49 hM (jgV w1313 w1315 w63 w84 w1316) rfl (ci := 8) rfl rfl nmX8_send rfl hh (Nat.le_of_ble_eq_true rfl) rfl kk hn
/-! LockstepNetModel.childrenOf(IZ)I -/
theorem rX8_childrenOf_0 {l : Launch} {G : jG} {X : jX} {Q : State → Prop} {n hg nc : Nat} {ret : Option FieldType} {mu : jM} {x1 : Int32} {x2 : Int32} (h : jOk l G X cX8_childrenOf 5 ret RX8 hg nc)
    (k1 : J l G X Q 5 5 [.ref 58, .int x1, .int x2, .int 0, .int 0] [] mu n) :
    J l G X Q 5 0 [.ref 58, .int x1, .int x2, .float 0, .float 0] [] mu n := by
  refine J_iconst h dX8_childrenOf_0 ci_0 ?_
  refine J_istore_n h dX8_childrenOf_1 rfl (by decide) rfl ?_
  show J l G X Q 5 2 [.ref 58, .int x1, .int x2, .int 0, .float 0] [] mu n
  refine J_iconst h dX8_childrenOf_2 ci_0 ?_
  refine J_istore h dX8_childrenOf_3 (by decide) rfl ?_
  show J l G X Q 5 5 [.ref 58, .int x1, .int x2, .int 0, .int 0] [] mu n
  exact k1
theorem rX8_childrenOf_5 {l : Launch} {G : jG} {X : jX} {Q : State → Prop} {n hg nc : Nat} {ret : Option FieldType} {mu : jM} {x1 : Int32} {x2 : Int32} {x3 : Int32} {x4 : Int32} (h : jOk l G X cX8_childrenOf 5 ret RX8 hg nc) (s4 : ¬ (mu 58 1) ≤ x4 → x2 = 0 → vp_in x4 24) (s8 : ¬ (mu 58 1) ≤ x4 → ¬ x2 = 0 → vp_in x4 24)
    (k2 : (mu 58 1) ≤ x4 → J l G X Q 5 54 [.ref 58, .int x1, .int x2, .int x3, .int x4] [.int x3] mu n)
    (k6 : ¬ (mu 58 1) ≤ x4 → x2 = 0 → ¬ x1 = (mu 82 (x4).toNatClampNeg) → J l G X Q 5 5 [.ref 58, .int x1, .int x2, .int (x3 + 0), .int (x4 + 1)] [] mu n)
    (k7 : ¬ (mu 58 1) ≤ x4 → x2 = 0 → x1 = (mu 82 (x4).toNatClampNeg) → J l G X Q 5 5 [.ref 58, .int x1, .int x2, .int (x3 + 1), .int (x4 + 1)] [] mu n)
    (k10 : ¬ (mu 58 1) ≤ x4 → ¬ x2 = 0 → ¬ x1 = (mu 85 (x4).toNatClampNeg) → J l G X Q 5 5 [.ref 58, .int x1, .int x2, .int (x3 + 0), .int (x4 + 1)] [] mu n)
    (k11 : ¬ (mu 58 1) ≤ x4 → ¬ x2 = 0 → x1 = (mu 85 (x4).toNatClampNeg) → J l G X Q 5 5 [.ref 58, .int x1, .int x2, .int (x3 + 1), .int (x4 + 1)] [] mu n) :
    J l G X Q 5 5 [.ref 58, .int x1, .int x2, .int x3, .int x4] [] mu n := by
  refine J_iload h dX8_childrenOf_5 rfl ?_
  refine J_aload_n h dX8_childrenOf_7 rfl rfl ?_
  refine J_geti (k := 1) h dX8_childrenOf_8 jc8 rfl rfl (by decide) w985 ?_
  refine J_icmp_ge (tgt := 53) h dX8_childrenOf_11 (by decide) (fun q1 => ?_) (fun q1 => ?_)
  · skip
    refine J_iload_n h dX8_childrenOf_53 rfl rfl ?_
    exact k2 q1
  · skip
    refine J_iload_n h dX8_childrenOf_14 rfl rfl ?_
    refine J_iload_n h dX8_childrenOf_15 rfl rfl ?_
    refine J_iload_n h dX8_childrenOf_16 rfl rfl ?_
    refine J_if_eq (tgt := 30) h dX8_childrenOf_17 (by decide) (fun q3 => ?_) (fun q3 => ?_)
    · skip
      refine J_aload_n h dX8_childrenOf_30 rfl rfl ?_
      refine J_getr (k := 30) h dX8_childrenOf_31 jc8 rfl rfl (by decide) w1014 ?_
      refine J_iload h dX8_childrenOf_34 rfl ?_
      refine J_iald h dX8_childrenOf_36 rfl (s4 q1 q3) ?_
      refine J_icmp_ne (tgt := 44) h dX8_childrenOf_37 (by decide) (fun q5 => ?_) (fun q5 => ?_)
      · skip
        refine J_iconst h dX8_childrenOf_44 ci_0 ?_
        refine J_iadd h dX8_childrenOf_45 ?_
        refine J_istore_n h dX8_childrenOf_46 rfl (by decide) rfl ?_
        show J l G X Q 5 47 [.ref 58, .int x1, .int x2, .int (x3 + 0), .int x4] [] mu n
        refine J_iinc h dX8_childrenOf_47 rfl (cc_1 _) (by decide) rfl ?_
        show J l G X Q 5 50 [.ref 58, .int x1, .int x2, .int (x3 + 0), .int (x4 + 1)] [] mu n
        refine J_goto (tgt := 5) h dX8_childrenOf_50 (by decide) ?_
        exact k6 q1 q3 q5
      · skip
        refine J_iconst h dX8_childrenOf_40 ci_1 ?_
        refine J_goto (tgt := 45) h dX8_childrenOf_41 (by decide) ?_
        refine J_iadd h dX8_childrenOf_45 ?_
        refine J_istore_n h dX8_childrenOf_46 rfl (by decide) rfl ?_
        show J l G X Q 5 47 [.ref 58, .int x1, .int x2, .int (x3 + 1), .int x4] [] mu n
        refine J_iinc h dX8_childrenOf_47 rfl (cc_1 _) (by decide) rfl ?_
        show J l G X Q 5 50 [.ref 58, .int x1, .int x2, .int (x3 + 1), .int (x4 + 1)] [] mu n
        refine J_goto (tgt := 5) h dX8_childrenOf_50 (by decide) ?_
        exact k7 q1 q3 q5
    · skip
      refine J_aload_n h dX8_childrenOf_20 rfl rfl ?_
      refine J_getr (k := 34) h dX8_childrenOf_21 jc8 rfl rfl (by decide) w1018 ?_
      refine J_iload h dX8_childrenOf_24 rfl ?_
      refine J_iald h dX8_childrenOf_26 rfl (s8 q1 q3) ?_
      refine J_goto (tgt := 37) h dX8_childrenOf_27 (by decide) ?_
      refine J_icmp_ne (tgt := 44) h dX8_childrenOf_37 (by decide) (fun q9 => ?_) (fun q9 => ?_)
      · skip
        refine J_iconst h dX8_childrenOf_44 ci_0 ?_
        refine J_iadd h dX8_childrenOf_45 ?_
        refine J_istore_n h dX8_childrenOf_46 rfl (by decide) rfl ?_
        show J l G X Q 5 47 [.ref 58, .int x1, .int x2, .int (x3 + 0), .int x4] [] mu n
        refine J_iinc h dX8_childrenOf_47 rfl (cc_1 _) (by decide) rfl ?_
        show J l G X Q 5 50 [.ref 58, .int x1, .int x2, .int (x3 + 0), .int (x4 + 1)] [] mu n
        refine J_goto (tgt := 5) h dX8_childrenOf_50 (by decide) ?_
        exact k10 q1 q3 q9
      · skip
        refine J_iconst h dX8_childrenOf_40 ci_1 ?_
        refine J_goto (tgt := 45) h dX8_childrenOf_41 (by decide) ?_
        refine J_iadd h dX8_childrenOf_45 ?_
        refine J_istore_n h dX8_childrenOf_46 rfl (by decide) rfl ?_
        show J l G X Q 5 47 [.ref 58, .int x1, .int x2, .int (x3 + 1), .int x4] [] mu n
        refine J_iinc h dX8_childrenOf_47 rfl (cc_1 _) (by decide) rfl ?_
        show J l G X Q 5 50 [.ref 58, .int x1, .int x2, .int (x3 + 1), .int (x4 + 1)] [] mu n
        refine J_goto (tgt := 5) h dX8_childrenOf_50 (by decide) ?_
        exact k11 q1 q3 q9
/-! LockstepNetModel.chosenOf(I)I -/
theorem rX8_chosenOf_0 {l : Launch} {G : jG} {X : jX} {Q : State → Prop} {n hg nc : Nat} {ret : Option FieldType} {mu : jM} {x1 : Int32} (h : jOk l G X cX8_chosenOf 4 ret RX8 hg nc)
    (k1 : J l G X Q 4 4 [.ref 58, .int x1, .int 0, .int 0] [] mu n) :
    J l G X Q 4 0 [.ref 58, .int x1, .float 0, .float 0] [] mu n := by
  refine J_iconst h dX8_chosenOf_0 ci_0 ?_
  refine J_istore_n h dX8_chosenOf_1 rfl (by decide) rfl ?_
  show J l G X Q 4 2 [.ref 58, .int x1, .int 0, .float 0] [] mu n
  refine J_iconst h dX8_chosenOf_2 ci_0 ?_
  refine J_istore_n h dX8_chosenOf_3 rfl (by decide) rfl ?_
  show J l G X Q 4 4 [.ref 58, .int x1, .int 0, .int 0] [] mu n
  exact k1
theorem rX8_chosenOf_4 {l : Launch} {G : jG} {X : jX} {Q : State → Prop} {n hg nc : Nat} {ret : Option FieldType} {mu : jM} {x1 : Int32} {x2 : Int32} {x3 : Int32} (h : jOk l G X cX8_chosenOf 4 ret RX8 hg nc) (s1 : vp_in x1 24) (s4 : ¬ (mu 61 (x1).toNatClampNeg) ≤ x3 → vp_in ((24 * x1) + x3) 576) (s5 : ¬ (mu 61 (x1).toNatClampNeg) ≤ x3 → vp_in (mu 62 (((24 * x1) + x3)).toNatClampNeg) 60)
    (k3 : (mu 61 (x1).toNatClampNeg) ≤ x3 → J l G X Q 4 48 [.ref 58, .int x1, .int x2, .int x3] [.int x2] mu n)
    (k7 : ¬ (mu 61 (x1).toNatClampNeg) ≤ x3 → (mu 87 ((mu 62 (((24 * x1) + x3)).toNatClampNeg)).toNatClampNeg) = 0 → J l G X Q 4 4 [.ref 58, .int x1, .int (x2 + 0), .int (x3 + 1)] [] mu n)
    (k8 : ¬ (mu 61 (x1).toNatClampNeg) ≤ x3 → ¬ (mu 87 ((mu 62 (((24 * x1) + x3)).toNatClampNeg)).toNatClampNeg) = 0 → J l G X Q 4 4 [.ref 58, .int x1, .int (x2 + 1), .int (x3 + 1)] [] mu n) :
    J l G X Q 4 4 [.ref 58, .int x1, .int x2, .int x3] [] mu n := by
  refine J_iload_n h dX8_chosenOf_4 rfl rfl ?_
  refine J_aload_n h dX8_chosenOf_5 rfl rfl ?_
  refine J_getr (k := 5) h dX8_chosenOf_6 jc8 rfl rfl (by decide) w989 ?_
  refine J_iload_n h dX8_chosenOf_9 rfl rfl ?_
  refine J_iald h dX8_chosenOf_10 rfl (s1) ?_
  refine J_icmp_ge (tgt := 47) h dX8_chosenOf_11 (by decide) (fun q2 => ?_) (fun q2 => ?_)
  · skip
    refine J_iload_n h dX8_chosenOf_47 rfl rfl ?_
    exact k3 q2
  · skip
    refine J_iload_n h dX8_chosenOf_14 rfl rfl ?_
    refine J_aload_n h dX8_chosenOf_15 rfl rfl ?_
    refine J_getr (k := 36) h dX8_chosenOf_16 jc8 rfl rfl (by decide) w1020 ?_
    refine J_aload_n h dX8_chosenOf_19 rfl rfl ?_
    refine J_getr (k := 6) h dX8_chosenOf_20 jc8 rfl rfl (by decide) w990 ?_
    refine J_bipush h dX8_chosenOf_23 cb_24 ?_
    refine J_iload_n h dX8_chosenOf_25 rfl rfl ?_
    refine J_imul h dX8_chosenOf_26 ?_
    refine J_iload_n h dX8_chosenOf_27 rfl rfl ?_
    refine J_iadd h dX8_chosenOf_28 ?_
    refine J_iald h dX8_chosenOf_29 rfl (s4 q2) ?_
    refine J_zald h dX8_chosenOf_30 rfl (s5 q2) ?_
    refine J_if_eq (tgt := 38) h dX8_chosenOf_31 (by decide) (fun q6 => ?_) (fun q6 => ?_)
    · skip
      refine J_iconst h dX8_chosenOf_38 ci_0 ?_
      refine J_iadd h dX8_chosenOf_39 ?_
      refine J_istore_n h dX8_chosenOf_40 rfl (by decide) rfl ?_
      show J l G X Q 4 41 [.ref 58, .int x1, .int (x2 + 0), .int x3] [] mu n
      refine J_iinc h dX8_chosenOf_41 rfl (cc_1 _) (by decide) rfl ?_
      show J l G X Q 4 44 [.ref 58, .int x1, .int (x2 + 0), .int (x3 + 1)] [] mu n
      refine J_goto (tgt := 4) h dX8_chosenOf_44 (by decide) ?_
      exact k7 q2 q6
    · skip
      refine J_iconst h dX8_chosenOf_34 ci_1 ?_
      refine J_goto (tgt := 39) h dX8_chosenOf_35 (by decide) ?_
      refine J_iadd h dX8_chosenOf_39 ?_
      refine J_istore_n h dX8_chosenOf_40 rfl (by decide) rfl ?_
      show J l G X Q 4 41 [.ref 58, .int x1, .int (x2 + 1), .int x3] [] mu n
      refine J_iinc h dX8_chosenOf_41 rfl (cc_1 _) (by decide) rfl ?_
      show J l G X Q 4 44 [.ref 58, .int x1, .int (x2 + 1), .int (x3 + 1)] [] mu n
      refine J_goto (tgt := 4) h dX8_chosenOf_44 (by decide) ?_
      exact k8 q2 q6
/-! LockstepNetModel.maySay(I)Z -/
theorem rX8_maySay_0 {l : Launch} {G : jG} {X : jX} {Q : State → Prop} {n hg nc : Nat} {ret : Option FieldType} {mu : jM} {x1 : Int32} (h : jOk l G X cX8_maySay 2 ret RX8 hg nc) (s1 : vp_in x1 24) (s4 : (mu 77 (x1).toNatClampNeg) = 0 → vp_in x1 24) (s7 : (mu 77 (x1).toNatClampNeg) = 0 → ¬ (mu 58 19) ≤ (mu 75 (x1).toNatClampNeg) → vp_in x1 24)
    (k3 : ¬ (mu 77 (x1).toNatClampNeg) = 0 → J l G X Q 2 35 [.ref 58, .int x1] [] mu n)
    (k6 : (mu 77 (x1).toNatClampNeg) = 0 → (mu 58 19) ≤ (mu 75 (x1).toNatClampNeg) → J l G X Q 2 35 [.ref 58, .int x1] [] mu n)
    (k9 : (mu 77 (x1).toNatClampNeg) = 0 → ¬ (mu 58 19) ≤ (mu 75 (x1).toNatClampNeg) → ¬ (mu 78 (x1).toNatClampNeg) = 0 → J l G X Q 2 35 [.ref 58, .int x1] [] mu n)
    (k10 : (mu 77 (x1).toNatClampNeg) = 0 → ¬ (mu 58 19) ≤ (mu 75 (x1).toNatClampNeg) → (mu 78 (x1).toNatClampNeg) = 0 → J l G X Q 2 36 [.ref 58, .int x1] [.int 1] mu n) :
    J l G X Q 2 0 [.ref 58, .int x1] [] mu n := by
  refine J_aload_n h dX8_maySay_0 rfl rfl ?_
  refine J_getr (k := 25) h dX8_maySay_1 jc8 rfl rfl (by decide) w1009 ?_
  refine J_iload_n h dX8_maySay_4 rfl rfl ?_
  refine J_iald h dX8_maySay_5 rfl (s1) ?_
  refine J_if_ne (tgt := 35) h dX8_maySay_6 (by decide) (fun q2 => ?_) (fun q2 => ?_)
  · skip
    exact k3 q2
  · skip
    refine J_aload_n h dX8_maySay_9 rfl rfl ?_
    refine J_getr (k := 23) h dX8_maySay_10 jc8 rfl rfl (by decide) w1007 ?_
    refine J_iload_n h dX8_maySay_13 rfl rfl ?_
    refine J_iald h dX8_maySay_14 rfl (s4 q2) ?_
    refine J_aload_n h dX8_maySay_15 rfl rfl ?_
    refine J_geti (k := 19) h dX8_maySay_16 jc8 rfl rfl (by decide) w1003 ?_
    refine J_icmp_ge (tgt := 35) h dX8_maySay_19 (by decide) (fun q5 => ?_) (fun q5 => ?_)
    · skip
      exact k6 q2 q5
    · skip
      refine J_aload_n h dX8_maySay_22 rfl rfl ?_
      refine J_getr (k := 26) h dX8_maySay_23 jc8 rfl rfl (by decide) w1010 ?_
      refine J_iload_n h dX8_maySay_26 rfl rfl ?_
      refine J_zald h dX8_maySay_27 rfl (s7 q2 q5) ?_
      refine J_if_ne (tgt := 35) h dX8_maySay_28 (by decide) (fun q8 => ?_) (fun q8 => ?_)
      · skip
        exact k9 q2 q5 q8
      · skip
        refine J_iconst h dX8_maySay_31 ci_1 ?_
        refine J_goto (tgt := 36) h dX8_maySay_32 (by decide) ?_
        exact k10 q2 q5 q8
theorem rX8_maySay_35 {l : Launch} {G : jG} {X : jX} {Q : State → Prop} {n hg nc : Nat} {ret : Option FieldType} {mu : jM} {x1 : Int32} (h : jOk l G X cX8_maySay 2 ret RX8 hg nc)
    (k1 : J l G X Q 2 36 [.ref 58, .int x1] [.int 0] mu n) :
    J l G X Q 2 35 [.ref 58, .int x1] [] mu n := by
  refine J_iconst h dX8_maySay_35 ci_0 ?_
  exact k1
/-! LockstepNetModel.byNodes(I)Z -/
theorem rX8_byNodes_0 {l : Launch} {G : jG} {X : jX} {Q : State → Prop} {n hg nc : Nat} {ret : Option FieldType} {mu : jM} {x1 : Int32} (h : jOk l G X cX8_byNodes 2 ret RX8 hg nc)
    (k1 : J l G X Q 2 2 [.ref 58, .int x1] [.int x1, .ref 58] mu n) :
    J l G X Q 2 0 [.ref 58, .int x1] [] mu n := by
  refine J_aload_n h dX8_byNodes_0 rfl rfl ?_
  refine J_iload_n h dX8_byNodes_1 rfl rfl ?_
  exact k1
theorem rX8_byNodes_2 {l : Launch} {G : jG} {X : jX} {Q : State → Prop} {n hg nc : Nat} {ret : Option FieldType} {mu : jM} {x1 : Int32} {y0 : Int32} {Qc : Int32 → jM → Prop} {h' : Nat} (h : jOk l G X cX8_byNodes 2 ret RX8 hg nc) (hM : jCi l G yX8_maySay cX8_maySay 2 h' (some .boolean) (.ref 58 :: [.int y0]) mu Qc) (hh : h' < hg ∧ 2 ≤ 21) (hn : n ≤ nc)
    (kk : ∀ v mu', Qc v mu' → J l G X Q 2 5 [.ref 58, .int x1] (.int v :: []) mu' n) :
    J l G X Q 2 2 [.ref 58, .int x1] [.int y0, .ref 58] mu n :=
  J_callVi (As := [.int y0]) (rest := []) h dX8_byNodes_2 hM (jgV w1305 w1307 w61 w84 w1308) rfl (ci := 8) rfl rfl nmX8_maySay rfl hh (Nat.le_of_ble_eq_true rfl) rfl kk hn
theorem rX8_byNodes_5 {l : Launch} {G : jG} {X : jX} {Q : State → Prop} {n hg nc : Nat} {ret : Option FieldType} {mu : jM} {x1 : Int32} {y0 : Int32} (h : jOk l G X cX8_byNodes 2 ret RX8 hg nc) (s2 : y0 = 0 → vp_in x1 24)
    (k4 : y0 = 0 → (mu 78 (x1).toNatClampNeg) = 0 → J l G X Q 2 54 [.ref 58, .int x1] [] mu n)
    (k5 : y0 = 0 → ¬ (mu 78 (x1).toNatClampNeg) = 0 → J l G X Q 2 35 [.ref 58, .int x1] [.int 2, .int x1, .ref 58] mu n)
    (k6 : ¬ y0 = 0 → J l G X Q 2 11 [.ref 58, .int x1] [.int 2, .int x1, .ref 58] mu n) :
    J l G X Q 2 5 [.ref 58, .int x1] [.int y0] mu n := by
  refine J_if_eq (tgt := 23) h dX8_byNodes_5 (by decide) (fun q1 => ?_) (fun q1 => ?_)
  · skip
    refine J_aload_n h dX8_byNodes_23 rfl rfl ?_
    refine J_getr (k := 26) h dX8_byNodes_24 jc8 rfl rfl (by decide) w1010 ?_
    refine J_iload_n h dX8_byNodes_27 rfl rfl ?_
    refine J_zald h dX8_byNodes_28 rfl (s2 q1) ?_
    refine J_if_eq (tgt := 54) h dX8_byNodes_29 (by decide) (fun q3 => ?_) (fun q3 => ?_)
    · skip
      exact k4 q1 q3
    · skip
      refine J_aload_n h dX8_byNodes_32 rfl rfl ?_
      refine J_iload_n h dX8_byNodes_33 rfl rfl ?_
      refine J_iconst h dX8_byNodes_34 ci_2 ?_
      exact k5 q1 q3
  · skip
    refine J_aload_n h dX8_byNodes_8 rfl rfl ?_
    refine J_iload_n h dX8_byNodes_9 rfl rfl ?_
    refine J_iconst h dX8_byNodes_10 ci_2 ?_
    exact k6 q1
theorem rX8_byNodes_54 {l : Launch} {G : jG} {X : jX} {Q : State → Prop} {n hg nc : Nat} {ret : Option FieldType} {mu : jM} {x1 : Int32} (h : jOk l G X cX8_byNodes 2 ret RX8 hg nc)
    (k1 : J l G X Q 2 55 [.ref 58, .int x1] [.int 0] mu n) :
    J l G X Q 2 54 [.ref 58, .int x1] [] mu n := by
  refine J_iconst h dX8_byNodes_54 ci_0 ?_
  exact k1
theorem rX8_byNodes_35 {l : Launch} {G : jG} {X : jX} {Q : State → Prop} {n hg nc : Nat} {ret : Option FieldType} {mu : jM} {x1 : Int32} {y0 : Int32} {y1 : Int32} {Qc : Int32 → jM → Prop} {h' : Nat} (h : jOk l G X cX8_byNodes 2 ret RX8 hg nc) (hM : jCi l G yX8_cameTo cX8_cameTo 3 h' (some .int) (.ref 58 :: [.int y1, .int y0]) mu Qc) (hh : h' < hg ∧ 3 ≤ 21) (hn : n ≤ nc)
    (kk : ∀ v mu', Qc v mu' → J l G X Q 2 38 [.ref 58, .int x1] (.int v :: []) mu' n) :
    J l G X Q 2 35 [.ref 58, .int x1] [.int y0, .int y1, .ref 58] mu n :=
  J_callVi (As := [.int y1, .int y0]) (rest := []) h dX8_byNodes_35 hM (jgV w1317 w1319 w64 w84 w1320) rfl (ci := 8) rfl rfl nmX8_cameTo rfl hh (Nat.le_of_ble_eq_true rfl) rfl kk hn
theorem rX8_byNodes_11 {l : Launch} {G : jG} {X : jX} {Q : State → Prop} {n hg nc : Nat} {ret : Option FieldType} {mu : jM} {x1 : Int32} {y0 : Int32} {y1 : Int32} {Qc : jM → Prop} {h' : Nat} (h : jOk l G X cX8_byNodes 2 ret RX8 hg nc) (hM : jCv l G yX8_toNeighbours cX8_toNeighbours 4 h' (.ref 58 :: [.int y1, .int y0]) mu Qc) (hh : h' < hg ∧ 4 ≤ 21) (hn : n ≤ nc)
    (kk : ∀ mu', Qc mu' → J l G X Q 2 14 [.ref 58, .int x1] [] mu' n) :
    J l G X Q 2 11 [.ref 58, .int x1] [.int y0, .int y1, .ref 58] mu n :=
  J_callV (As := [.int y1, .int y0]) (rest := []) h dX8_byNodes_11 hM (jgV w1309 w1311 w62 w84 w1312) rfl (ci := 8) rfl rfl nmX8_toNeighbours rfl hh (Nat.le_of_ble_eq_true rfl) rfl kk hn
theorem rX8_byNodes_38 {l : Launch} {G : jG} {X : jX} {Q : State → Prop} {n hg nc : Nat} {ret : Option FieldType} {mu : jM} {x1 : Int32} {y0 : Int32} (h : jOk l G X cX8_byNodes 2 ret RX8 hg nc) (s1 : vp_in x1 24)
    (k3 : ¬ y0 = (mu 61 (x1).toNatClampNeg) → J l G X Q 2 54 [.ref 58, .int x1] [] mu n)
    (k4 : y0 = (mu 61 (x1).toNatClampNeg) → J l G X Q 2 49 [.ref 58, .int x1] [.int x1, .ref 58] mu n) :
    J l G X Q 2 38 [.ref 58, .int x1] [.int y0] mu n := by
  refine J_aload_n h dX8_byNodes_38 rfl rfl ?_
  refine J_getr (k := 5) h dX8_byNodes_39 jc8 rfl rfl (by decide) w989 ?_
  refine J_iload_n h dX8_byNodes_42 rfl rfl ?_
  refine J_iald h dX8_byNodes_43 rfl (s1) ?_
  refine J_icmp_ne (tgt := 54) h dX8_byNodes_44 (by decide) (fun q2 => ?_) (fun q2 => ?_)
  · skip
    exact k3 q2
  · skip
    refine J_aload_n h dX8_byNodes_47 rfl rfl ?_
    refine J_iload_n h dX8_byNodes_48 rfl rfl ?_
    exact k4 q2
theorem rX8_byNodes_14 {l : Launch} {G : jG} {X : jX} {Q : State → Prop} {n hg nc : Nat} {ret : Option FieldType} {mu : jM} {x1 : Int32} (h : jOk l G X cX8_byNodes 2 ret RX8 hg nc) (s1 : vp_in x1 24)
    (k2 : J l G X Q 2 22 [.ref 58, .int x1] [.int 1] (wr mu 78 (x1).toNatClampNeg (vp_nar .boolean 1)) n) :
    J l G X Q 2 14 [.ref 58, .int x1] [] mu n := by
  refine J_aload_n h dX8_byNodes_14 rfl rfl ?_
  refine J_getr (k := 26) h dX8_byNodes_15 jc8 rfl rfl (by decide) w1010 ?_
  refine J_iload_n h dX8_byNodes_18 rfl rfl ?_
  refine J_iconst h dX8_byNodes_19 ci_1 ?_
  refine J_zast h dX8_byNodes_20 rfl (s1) ?_
  refine J_iconst h dX8_byNodes_21 ci_1 ?_
  exact k2
theorem rX8_byNodes_49 {l : Launch} {G : jG} {X : jX} {Q : State → Prop} {n hg nc : Nat} {ret : Option FieldType} {mu : jM} {x1 : Int32} {y0 : Int32} {Qc : jM → Prop} {h' : Nat} (h : jOk l G X cX8_byNodes 2 ret RX8 hg nc) (hM : jCv l G yX8_next cX8_next 4 h' (.ref 58 :: [.int y0]) mu Qc) (hh : h' < hg ∧ 4 ≤ 21) (hn : n ≤ nc)
    (kk : ∀ mu', Qc mu' → J l G X Q 2 52 [.ref 58, .int x1] [] mu' n) :
    J l G X Q 2 49 [.ref 58, .int x1] [.int y0, .ref 58] mu n :=
  J_callV (As := [.int y0]) (rest := []) h dX8_byNodes_49 hM (jgV w1324 w1326 w65 w84 w1327) rfl (ci := 8) rfl rfl nmX8_next rfl hh (Nat.le_of_ble_eq_true rfl) rfl kk hn
theorem rX8_byNodes_52 {l : Launch} {G : jG} {X : jX} {Q : State → Prop} {n hg nc : Nat} {ret : Option FieldType} {mu : jM} {x1 : Int32} (h : jOk l G X cX8_byNodes 2 ret RX8 hg nc)
    (k1 : J l G X Q 2 53 [.ref 58, .int x1] [.int 1] mu n) :
    J l G X Q 2 52 [.ref 58, .int x1] [] mu n := by
  refine J_iconst h dX8_byNodes_52 ci_1 ?_
  exact k1
/-! LockstepNetModel.byTree(I)Z -/
theorem rX8_byTree_0 {l : Launch} {G : jG} {X : jX} {Q : State → Prop} {n hg nc : Nat} {ret : Option FieldType} {mu : jM} {x1 : Int32} (h : jOk l G X cX8_byTree 2 ret RX8 hg nc)
    (k1 : J l G X Q 2 2 [.ref 58, .int x1] [.int x1, .ref 58] mu n) :
    J l G X Q 2 0 [.ref 58, .int x1] [] mu n := by
  refine J_aload_n h dX8_byTree_0 rfl rfl ?_
  refine J_iload_n h dX8_byTree_1 rfl rfl ?_
  exact k1
theorem rX8_byTree_2 {l : Launch} {G : jG} {X : jX} {Q : State → Prop} {n hg nc : Nat} {ret : Option FieldType} {mu : jM} {x1 : Int32} {y0 : Int32} {Qc : Int32 → jM → Prop} {h' : Nat} (h : jOk l G X cX8_byTree 2 ret RX8 hg nc) (hM : jCi l G yX8_maySay cX8_maySay 2 h' (some .boolean) (.ref 58 :: [.int y0]) mu Qc) (hh : h' < hg ∧ 2 ≤ 21) (hn : n ≤ nc)
    (kk : ∀ v mu', Qc v mu' → J l G X Q 2 5 [.ref 58, .int x1] (.int v :: []) mu' n) :
    J l G X Q 2 2 [.ref 58, .int x1] [.int y0, .ref 58] mu n :=
  J_callVi (As := [.int y0]) (rest := []) h dX8_byTree_2 hM (jgV w1305 w1307 w61 w84 w1308) rfl (ci := 8) rfl rfl nmX8_maySay rfl hh (Nat.le_of_ble_eq_true rfl) rfl kk hn
theorem rX8_byTree_5 {l : Launch} {G : jG} {X : jX} {Q : State → Prop} {n hg nc : Nat} {ret : Option FieldType} {mu : jM} {x1 : Int32} {y0 : Int32} (h : jOk l G X cX8_byTree 2 ret RX8 hg nc)
    (k2 : y0 = 0 → J l G X Q 2 76 [.ref 58, .int x1] [] mu n)
    (k3 : ¬ y0 = 0 → J l G X Q 2 11 [.ref 58, .int x1] [.int 3, .int x1, .ref 58] mu n) :
    J l G X Q 2 5 [.ref 58, .int x1] [.int y0] mu n := by
  refine J_if_eq (tgt := 76) h dX8_byTree_5 (by decide) (fun q1 => ?_) (fun q1 => ?_)
  · skip
    exact k2 q1
  · skip
    refine J_aload_n h dX8_byTree_8 rfl rfl ?_
    refine J_iload_n h dX8_byTree_9 rfl rfl ?_
    refine J_iconst h dX8_byTree_10 ci_3 ?_
    exact k3 q1
theorem rX8_byTree_76 {l : Launch} {G : jG} {X : jX} {Q : State → Prop} {n hg nc : Nat} {ret : Option FieldType} {mu : jM} {x1 : Int32} (h : jOk l G X cX8_byTree 2 ret RX8 hg nc)
    (k1 : J l G X Q 2 79 [.ref 58, .int x1] [.int 4, .int x1, .ref 58] mu n) :
    J l G X Q 2 76 [.ref 58, .int x1] [] mu n := by
  refine J_aload_n h dX8_byTree_76 rfl rfl ?_
  refine J_iload_n h dX8_byTree_77 rfl rfl ?_
  refine J_iconst h dX8_byTree_78 ci_4 ?_
  exact k1
theorem rX8_byTree_11 {l : Launch} {G : jG} {X : jX} {Q : State → Prop} {n hg nc : Nat} {ret : Option FieldType} {mu : jM} {x1 : Int32} {y0 : Int32} {y1 : Int32} {Qc : Int32 → jM → Prop} {h' : Nat} (h : jOk l G X cX8_byTree 2 ret RX8 hg nc) (hM : jCi l G yX8_cameTo cX8_cameTo 3 h' (some .int) (.ref 58 :: [.int y1, .int y0]) mu Qc) (hh : h' < hg ∧ 3 ≤ 21) (hn : n ≤ nc)
    (kk : ∀ v mu', Qc v mu' → J l G X Q 2 14 [.ref 58, .int x1] (.int v :: []) mu' n) :
    J l G X Q 2 11 [.ref 58, .int x1] [.int y0, .int y1, .ref 58] mu n :=
  J_callVi (As := [.int y1, .int y0]) (rest := []) h dX8_byTree_11 hM (jgV w1317 w1319 w64 w84 w1320) rfl (ci := 8) rfl rfl nmX8_cameTo rfl hh (Nat.le_of_ble_eq_true rfl) rfl kk hn
theorem rX8_byTree_79 {l : Launch} {G : jG} {X : jX} {Q : State → Prop} {n hg nc : Nat} {ret : Option FieldType} {mu : jM} {x1 : Int32} {y0 : Int32} {y1 : Int32} {Qc : Int32 → jM → Prop} {h' : Nat} (h : jOk l G X cX8_byTree 2 ret RX8 hg nc) (hM : jCi l G yX8_cameTo cX8_cameTo 3 h' (some .int) (.ref 58 :: [.int y1, .int y0]) mu Qc) (hh : h' < hg ∧ 3 ≤ 21) (hn : n ≤ nc)
    (kk : ∀ v mu', Qc v mu' → J l G X Q 2 82 [.ref 58, .int x1] (.int v :: []) mu' n) :
    J l G X Q 2 79 [.ref 58, .int x1] [.int y0, .int y1, .ref 58] mu n :=
  J_callVi (As := [.int y1, .int y0]) (rest := []) h dX8_byTree_79 hM (jgV w1317 w1319 w64 w84 w1320) rfl (ci := 8) rfl rfl nmX8_cameTo rfl hh (Nat.le_of_ble_eq_true rfl) rfl kk hn
theorem rX8_byTree_14 {l : Launch} {G : jG} {X : jX} {Q : State → Prop} {n hg nc : Nat} {ret : Option FieldType} {mu : jM} {x1 : Int32} {y0 : Int32} (h : jOk l G X cX8_byTree 2 ret RX8 hg nc)
    (k1 : J l G X Q 2 17 [.ref 58, .int x1] [.int 0, .int x1, .ref 58, .int y0] mu n) :
    J l G X Q 2 14 [.ref 58, .int x1] [.int y0] mu n := by
  refine J_aload_n h dX8_byTree_14 rfl rfl ?_
  refine J_iload_n h dX8_byTree_15 rfl rfl ?_
  refine J_iconst h dX8_byTree_16 ci_0 ?_
  exact k1
theorem rX8_byTree_82 {l : Launch} {G : jG} {X : jX} {Q : State → Prop} {n hg nc : Nat} {ret : Option FieldType} {mu : jM} {x1 : Int32} {y0 : Int32} (h : jOk l G X cX8_byTree 2 ret RX8 hg nc)
    (k2 : y0 ≤ 0 → J l G X Q 2 100 [.ref 58, .int x1] [.int 0] mu n)
    (k3 : ¬ y0 ≤ 0 → J l G X Q 2 89 [.ref 58, .int x1] [.int 0, .int 4, .int x1, .ref 58] mu n) :
    J l G X Q 2 82 [.ref 58, .int x1] [.int y0] mu n := by
  refine J_if_le (tgt := 99) h dX8_byTree_82 (by decide) (fun q1 => ?_) (fun q1 => ?_)
  · skip
    refine J_iconst h dX8_byTree_99 ci_0 ?_
    exact k2 q1
  · skip
    refine J_aload_n h dX8_byTree_85 rfl rfl ?_
    refine J_iload_n h dX8_byTree_86 rfl rfl ?_
    refine J_iconst h dX8_byTree_87 ci_4 ?_
    refine J_iconst h dX8_byTree_88 ci_0 ?_
    exact k3 q1
theorem rX8_byTree_17 {l : Launch} {G : jG} {X : jX} {Q : State → Prop} {n hg nc : Nat} {ret : Option FieldType} {mu : jM} {x1 : Int32} {y0 : Int32} {y1 : Int32} {y3 : Int32} {Qc : Int32 → jM → Prop} {h' : Nat} (h : jOk l G X cX8_byTree 2 ret RX8 hg nc) (hM : jCi l G yX8_childrenOf cX8_childrenOf 5 h' (some .int) (.ref 58 :: [.int y1, .int y0]) mu Qc) (hh : h' < hg ∧ 5 ≤ 21) (hn : n ≤ nc)
    (kk : ∀ v mu', Qc v mu' → J l G X Q 2 20 [.ref 58, .int x1] (.int v :: [.int y3]) mu' n) :
    J l G X Q 2 17 [.ref 58, .int x1] [.int y0, .int y1, .ref 58, .int y3] mu n :=
  J_callVi (As := [.int y1, .int y0]) (rest := [.int y3]) h dX8_byTree_17 hM (jgV w1340 w1342 w69 w84 w1343) rfl (ci := 8) rfl rfl nmX8_childrenOf rfl hh (Nat.le_of_ble_eq_true rfl) rfl kk hn
theorem rX8_byTree_89 {l : Launch} {G : jG} {X : jX} {Q : State → Prop} {n hg nc : Nat} {ret : Option FieldType} {mu : jM} {x1 : Int32} {y0 : Int32} {y1 : Int32} {y2 : Int32} {Qc : jM → Prop} {h' : Nat} (h : jOk l G X cX8_byTree 2 ret RX8 hg nc) (hM : jCv l G yX8_toChildren cX8_toChildren 5 h' (.ref 58 :: [.int y2, .int y1, .int y0]) mu Qc) (hh : h' < hg ∧ 5 ≤ 21) (hn : n ≤ nc)
    (kk : ∀ mu', Qc mu' → J l G X Q 2 92 [.ref 58, .int x1] [] mu' n) :
    J l G X Q 2 89 [.ref 58, .int x1] [.int y0, .int y1, .int y2, .ref 58] mu n :=
  J_callV (As := [.int y2, .int y1, .int y0]) (rest := []) h dX8_byTree_89 hM (jgV w1344 w1346 w70 w84 w1347) rfl (ci := 8) rfl rfl nmX8_toChildren rfl hh (Nat.le_of_ble_eq_true rfl) rfl kk hn
theorem rX8_byTree_20 {l : Launch} {G : jG} {X : jX} {Q : State → Prop} {n hg nc : Nat} {ret : Option FieldType} {mu : jM} {x1 : Int32} {y0 : Int32} {y1 : Int32} (h : jOk l G X cX8_byTree 2 ret RX8 hg nc) (s3 : y1 = y0 → vp_in x1 24) (s4 : y1 = y0 → vp_in x1 24) (s6 : y1 = y0 → ¬ (mu 82 (x1).toNatClampNeg) = (-1) → vp_in x1 24) (s7 : y1 = y0 → ¬ (mu 82 (x1).toNatClampNeg) = (-1) → vp_in x1 24)
    (k2 : ¬ y1 = y0 → J l G X Q 2 76 [.ref 58, .int x1] [] mu n)
    (k8 : y1 = y0 → ¬ (mu 82 (x1).toNatClampNeg) = (-1) → J l G X Q 2 71 [.ref 58, .int x1] [.int 0, .int (mu 75 (x1).toNatClampNeg), .int (mu 82 (x1).toNatClampNeg), .int x1, .int 3, .ref 58] (wr mu 78 (x1).toNatClampNeg (vp_nar .boolean 1)) n)
    (k9 : y1 = y0 → (mu 82 (x1).toNatClampNeg) = (-1) → J l G X Q 2 44 [.ref 58, .int x1] [.int 0, .int 4, .int x1, .ref 58] (wr mu 78 (x1).toNatClampNeg (vp_nar .boolean 1)) n) :
    J l G X Q 2 20 [.ref 58, .int x1] [.int y0, .int y1] mu n := by
  refine J_icmp_ne (tgt := 76) h dX8_byTree_20 (by decide) (fun q1 => ?_) (fun q1 => ?_)
  · skip
    exact k2 q1
  · skip
    refine J_aload_n h dX8_byTree_23 rfl rfl ?_
    refine J_getr (k := 26) h dX8_byTree_24 jc8 rfl rfl (by decide) w1010 ?_
    refine J_iload_n h dX8_byTree_27 rfl rfl ?_
    refine J_iconst h dX8_byTree_28 ci_1 ?_
    refine J_zast h dX8_byTree_29 rfl (s3 q1) ?_
    refine J_aload_n h dX8_byTree_30 rfl rfl ?_
    refine J_getr (k := 30) h dX8_byTree_31 jc8 rfl rfl (by decide) w1014 ?_
    refine J_iload_n h dX8_byTree_34 rfl rfl ?_
    refine J_iald h dX8_byTree_35 rfl (s4 q1) ?_
    refine J_iconst h dX8_byTree_36 ci_m1 ?_
    refine J_icmp_ne (tgt := 55) h dX8_byTree_37 (by decide) (fun q5 => ?_) (fun q5 => ?_)
    · skip
      refine J_aload_n h dX8_byTree_55 rfl rfl ?_
      refine J_iconst h dX8_byTree_56 ci_3 ?_
      refine J_iload_n h dX8_byTree_57 rfl rfl ?_
      refine J_aload_n h dX8_byTree_58 rfl rfl ?_
      refine J_getr (k := 30) h dX8_byTree_59 jc8 rfl rfl (by decide) w1014 ?_
      refine J_iload_n h dX8_byTree_62 rfl rfl ?_
      refine J_iald h dX8_byTree_63 rfl (s6 q1 q5) ?_
      refine J_aload_n h dX8_byTree_64 rfl rfl ?_
      refine J_getr (k := 23) h dX8_byTree_65 jc8 rfl rfl (by decide) w1007 ?_
      refine J_iload_n h dX8_byTree_68 rfl rfl ?_
      refine J_iald h dX8_byTree_69 rfl (s7 q1 q5) ?_
      refine J_iconst h dX8_byTree_70 ci_0 ?_
      exact k8 q1 q5
    · skip
      refine J_aload_n h dX8_byTree_40 rfl rfl ?_
      refine J_iload_n h dX8_byTree_41 rfl rfl ?_
      refine J_iconst h dX8_byTree_42 ci_4 ?_
      refine J_iconst h dX8_byTree_43 ci_0 ?_
      exact k9 q1 q5
theorem rX8_byTree_92 {l : Launch} {G : jG} {X : jX} {Q : State → Prop} {n hg nc : Nat} {ret : Option FieldType} {mu : jM} {x1 : Int32} (h : jOk l G X cX8_byTree 2 ret RX8 hg nc)
    (k1 : J l G X Q 2 94 [.ref 58, .int x1] [.int x1, .ref 58] mu n) :
    J l G X Q 2 92 [.ref 58, .int x1] [] mu n := by
  refine J_aload_n h dX8_byTree_92 rfl rfl ?_
  refine J_iload_n h dX8_byTree_93 rfl rfl ?_
  exact k1
theorem rX8_byTree_71 {l : Launch} {G : jG} {X : jX} {Q : State → Prop} {n hg nc : Nat} {ret : Option FieldType} {mu : jM} {x1 : Int32} {y0 : Int32} {y1 : Int32} {y2 : Int32} {y3 : Int32} {y4 : Int32} {Qc : jM → Prop} {h' : Nat} (h : jOk l G X cX8_byTree 2 ret RX8 hg nc) (hM : jCv l G yX8_send cX8_send 7 h' (.ref 58 :: [.int y4, .int y3, .int y2, .int y1, .int y0]) mu Qc) (hh : h' < hg ∧ 7 ≤ 21) (hn : n ≤ nc)
    (kk : ∀ mu', Qc mu' → J l G X Q 2 74 [.ref 58, .int x1] [] mu' n) :
    J l G X Q 2 71 [.ref 58, .int x1] [.int y0, .int y1, .int y2, .int y3, .int y4, .ref 58] mu n :=
  J_callV (As := [.int y4, .int y3, .int y2, .int y1, .int y0]) (rest := []) h dX8_byTree_71 hM (jgV w1313 w1315 w63 w84 w1316) rfl (ci := 8) rfl rfl nmX8_send rfl hh (Nat.le_of_ble_eq_true rfl) rfl kk hn
theorem rX8_byTree_44 {l : Launch} {G : jG} {X : jX} {Q : State → Prop} {n hg nc : Nat} {ret : Option FieldType} {mu : jM} {x1 : Int32} {y0 : Int32} {y1 : Int32} {y2 : Int32} {Qc : jM → Prop} {h' : Nat} (h : jOk l G X cX8_byTree 2 ret RX8 hg nc) (hM : jCv l G yX8_toChildren cX8_toChildren 5 h' (.ref 58 :: [.int y2, .int y1, .int y0]) mu Qc) (hh : h' < hg ∧ 5 ≤ 21) (hn : n ≤ nc)
    (kk : ∀ mu', Qc mu' → J l G X Q 2 47 [.ref 58, .int x1] [] mu' n) :
    J l G X Q 2 44 [.ref 58, .int x1] [.int y0, .int y1, .int y2, .ref 58] mu n :=
  J_callV (As := [.int y2, .int y1, .int y0]) (rest := []) h dX8_byTree_44 hM (jgV w1344 w1346 w70 w84 w1347) rfl (ci := 8) rfl rfl nmX8_toChildren rfl hh (Nat.le_of_ble_eq_true rfl) rfl kk hn
theorem rX8_byTree_94 {l : Launch} {G : jG} {X : jX} {Q : State → Prop} {n hg nc : Nat} {ret : Option FieldType} {mu : jM} {x1 : Int32} {y0 : Int32} {Qc : jM → Prop} {h' : Nat} (h : jOk l G X cX8_byTree 2 ret RX8 hg nc) (hM : jCv l G yX8_next cX8_next 4 h' (.ref 58 :: [.int y0]) mu Qc) (hh : h' < hg ∧ 4 ≤ 21) (hn : n ≤ nc)
    (kk : ∀ mu', Qc mu' → J l G X Q 2 97 [.ref 58, .int x1] [] mu' n) :
    J l G X Q 2 94 [.ref 58, .int x1] [.int y0, .ref 58] mu n :=
  J_callV (As := [.int y0]) (rest := []) h dX8_byTree_94 hM (jgV w1324 w1326 w65 w84 w1327) rfl (ci := 8) rfl rfl nmX8_next rfl hh (Nat.le_of_ble_eq_true rfl) rfl kk hn
theorem rX8_byTree_74 {l : Launch} {G : jG} {X : jX} {Q : State → Prop} {n hg nc : Nat} {ret : Option FieldType} {mu : jM} {x1 : Int32} (h : jOk l G X cX8_byTree 2 ret RX8 hg nc)
    (k1 : J l G X Q 2 75 [.ref 58, .int x1] [.int 1] mu n) :
    J l G X Q 2 74 [.ref 58, .int x1] [] mu n := by
  refine J_iconst h dX8_byTree_74 ci_1 ?_
  exact k1
theorem rX8_byTree_47 {l : Launch} {G : jG} {X : jX} {Q : State → Prop} {n hg nc : Nat} {ret : Option FieldType} {mu : jM} {x1 : Int32} (h : jOk l G X cX8_byTree 2 ret RX8 hg nc)
    (k1 : J l G X Q 2 49 [.ref 58, .int x1] [.int x1, .ref 58] mu n) :
    J l G X Q 2 47 [.ref 58, .int x1] [] mu n := by
  refine J_aload_n h dX8_byTree_47 rfl rfl ?_
  refine J_iload_n h dX8_byTree_48 rfl rfl ?_
  exact k1
theorem rX8_byTree_97 {l : Launch} {G : jG} {X : jX} {Q : State → Prop} {n hg nc : Nat} {ret : Option FieldType} {mu : jM} {x1 : Int32} (h : jOk l G X cX8_byTree 2 ret RX8 hg nc)
    (k1 : J l G X Q 2 98 [.ref 58, .int x1] [.int 1] mu n) :
    J l G X Q 2 97 [.ref 58, .int x1] [] mu n := by
  refine J_iconst h dX8_byTree_97 ci_1 ?_
  exact k1
theorem rX8_byTree_49 {l : Launch} {G : jG} {X : jX} {Q : State → Prop} {n hg nc : Nat} {ret : Option FieldType} {mu : jM} {x1 : Int32} {y0 : Int32} {Qc : jM → Prop} {h' : Nat} (h : jOk l G X cX8_byTree 2 ret RX8 hg nc) (hM : jCv l G yX8_next cX8_next 4 h' (.ref 58 :: [.int y0]) mu Qc) (hh : h' < hg ∧ 4 ≤ 21) (hn : n ≤ nc)
    (kk : ∀ mu', Qc mu' → J l G X Q 2 52 [.ref 58, .int x1] [] mu' n) :
    J l G X Q 2 49 [.ref 58, .int x1] [.int y0, .ref 58] mu n :=
  J_callV (As := [.int y0]) (rest := []) h dX8_byTree_49 hM (jgV w1324 w1326 w65 w84 w1327) rfl (ci := 8) rfl rfl nmX8_next rfl hh (Nat.le_of_ble_eq_true rfl) rfl kk hn
theorem rX8_byTree_52 {l : Launch} {G : jG} {X : jX} {Q : State → Prop} {n hg nc : Nat} {ret : Option FieldType} {mu : jM} {x1 : Int32} (h : jOk l G X cX8_byTree 2 ret RX8 hg nc)
    (k1 : J l G X Q 2 74 [.ref 58, .int x1] [] mu n) :
    J l G X Q 2 52 [.ref 58, .int x1] [] mu n := by
  refine J_goto (tgt := 74) h dX8_byTree_52 (by decide) ?_
  exact k1
/-! LockstepNetModel.tell(I)V -/
theorem rX8_tell_0 {l : Launch} {G : jG} {X : jX} {Q : State → Prop} {n hg nc : Nat} {ret : Option FieldType} {mu : jM} {x1 : Int32} (h : jOk l G X cX8_tell 4 ret RX8 hg nc) (s1 : vp_in x1 24)
    (k2 : J l G X Q 4 11 [.ref 58, .int x1, .float 0, .float 0] [.int 1, .int 5, .int x1, .ref 58] (wr mu 80 (x1).toNatClampNeg (vp_nar .boolean 1)) n) :
    J l G X Q 4 0 [.ref 58, .int x1, .float 0, .float 0] [] mu n := by
  refine J_aload_n h dX8_tell_0 rfl rfl ?_
  refine J_getr (k := 28) h dX8_tell_1 jc8 rfl rfl (by decide) w1012 ?_
  refine J_iload_n h dX8_tell_4 rfl rfl ?_
  refine J_iconst h dX8_tell_5 ci_1 ?_
  refine J_zast h dX8_tell_6 rfl (s1) ?_
  refine J_aload_n h dX8_tell_7 rfl rfl ?_
  refine J_iload_n h dX8_tell_8 rfl rfl ?_
  refine J_iconst h dX8_tell_9 ci_5 ?_
  refine J_iconst h dX8_tell_10 ci_1 ?_
  exact k2
theorem rX8_tell_11 {l : Launch} {G : jG} {X : jX} {Q : State → Prop} {n hg nc : Nat} {ret : Option FieldType} {mu : jM} {x1 : Int32} {y0 : Int32} {y1 : Int32} {y2 : Int32} {Qc : jM → Prop} {h' : Nat} (h : jOk l G X cX8_tell 4 ret RX8 hg nc) (hM : jCv l G yX8_toChildren cX8_toChildren 5 h' (.ref 58 :: [.int y2, .int y1, .int y0]) mu Qc) (hh : h' < hg ∧ 5 ≤ 21) (hn : n ≤ nc)
    (kk : ∀ mu', Qc mu' → J l G X Q 4 14 [.ref 58, .int x1, .float 0, .float 0] [] mu' n) :
    J l G X Q 4 11 [.ref 58, .int x1, .float 0, .float 0] [.int y0, .int y1, .int y2, .ref 58] mu n :=
  J_callV (As := [.int y2, .int y1, .int y0]) (rest := []) h dX8_tell_11 hM (jgV w1344 w1346 w70 w84 w1347) rfl (ci := 8) rfl rfl nmX8_toChildren rfl hh (Nat.le_of_ble_eq_true rfl) rfl kk hn
theorem rX8_tell_14 {l : Launch} {G : jG} {X : jX} {Q : State → Prop} {n hg nc : Nat} {ret : Option FieldType} {mu : jM} {x1 : Int32} (h : jOk l G X cX8_tell 4 ret RX8 hg nc)
    (k1 : J l G X Q 4 16 [.ref 58, .int x1, .int 0, .float 0] [] mu n) :
    J l G X Q 4 14 [.ref 58, .int x1, .float 0, .float 0] [] mu n := by
  refine J_iconst h dX8_tell_14 ci_0 ?_
  refine J_istore_n h dX8_tell_15 rfl (by decide) rfl ?_
  show J l G X Q 4 16 [.ref 58, .int x1, .int 0, .float 0] [] mu n
  exact k1
theorem rX8_tell_16 {l : Launch} {G : jG} {X : jX} {Q : State → Prop} {n hg nc : Nat} {ret : Option FieldType} {mu : jM} {x1 : Int32} {x2 : Int32} (h : jOk l G X cX8_tell 4 ret RX8 hg nc) (s1 : vp_in x1 24) (s4 : ¬ (mu 61 (x1).toNatClampNeg) ≤ x2 → vp_in ((24 * x1) + x2) 576) (s5 : ¬ (mu 61 (x1).toNatClampNeg) ≤ x2 → vp_in (mu 62 (((24 * x1) + x2)).toNatClampNeg) 60)
    (k3 : (mu 61 (x1).toNatClampNeg) ≤ x2 → J l G X Q 4 73 [.ref 58, .int x1, .int x2, .float 0] [] mu n)
    (k7 : ¬ (mu 61 (x1).toNatClampNeg) ≤ x2 → (mu 87 ((mu 62 (((24 * x1) + x2)).toNatClampNeg)).toNatClampNeg) = 0 → J l G X Q 4 67 [.ref 58, .int x1, .int x2, .int (mu 62 (((24 * x1) + x2)).toNatClampNeg)] [] mu n)
    (k8 : ¬ (mu 61 (x1).toNatClampNeg) ≤ x2 → ¬ (mu 87 ((mu 62 (((24 * x1) + x2)).toNatClampNeg)).toNatClampNeg) = 0 → J l G X Q 4 54 [.ref 58, .int x1, .int x2, .int (mu 62 (((24 * x1) + x2)).toNatClampNeg)] [.int x1, .int (mu 62 (((24 * x1) + x2)).toNatClampNeg), .ref 58, .int x1, .int 6, .ref 58] mu n) :
    J l G X Q 4 16 [.ref 58, .int x1, .int x2, .float 0] [] mu n := by
  refine J_iload_n h dX8_tell_16 rfl rfl ?_
  refine J_aload_n h dX8_tell_17 rfl rfl ?_
  refine J_getr (k := 5) h dX8_tell_18 jc8 rfl rfl (by decide) w989 ?_
  refine J_iload_n h dX8_tell_21 rfl rfl ?_
  refine J_iald h dX8_tell_22 rfl (s1) ?_
  refine J_icmp_ge (tgt := 73) h dX8_tell_23 (by decide) (fun q2 => ?_) (fun q2 => ?_)
  · skip
    exact k3 q2
  · skip
    refine J_aload_n h dX8_tell_26 rfl rfl ?_
    refine J_getr (k := 6) h dX8_tell_27 jc8 rfl rfl (by decide) w990 ?_
    refine J_bipush h dX8_tell_30 cb_24 ?_
    refine J_iload_n h dX8_tell_32 rfl rfl ?_
    refine J_imul h dX8_tell_33 ?_
    refine J_iload_n h dX8_tell_34 rfl rfl ?_
    refine J_iadd h dX8_tell_35 ?_
    refine J_iald h dX8_tell_36 rfl (s4 q2) ?_
    refine J_istore_n h dX8_tell_37 rfl (by decide) rfl ?_
    show J l G X Q 4 38 [.ref 58, .int x1, .int x2, .int (mu 62 (((24 * x1) + x2)).toNatClampNeg)] [] mu n
    refine J_aload_n h dX8_tell_38 rfl rfl ?_
    refine J_getr (k := 36) h dX8_tell_39 jc8 rfl rfl (by decide) w1020 ?_
    refine J_iload_n h dX8_tell_42 rfl rfl ?_
    refine J_zald h dX8_tell_43 rfl (s5 q2) ?_
    refine J_if_eq (tgt := 67) h dX8_tell_44 (by decide) (fun q6 => ?_) (fun q6 => ?_)
    · skip
      exact k7 q2 q6
    · skip
      refine J_aload_n h dX8_tell_47 rfl rfl ?_
      refine J_bipush h dX8_tell_48 cb_6 ?_
      refine J_iload_n h dX8_tell_50 rfl rfl ?_
      refine J_aload_n h dX8_tell_51 rfl rfl ?_
      refine J_iload_n h dX8_tell_52 rfl rfl ?_
      refine J_iload_n h dX8_tell_53 rfl rfl ?_
      exact k8 q2 q6
theorem rX8_tell_67 {l : Launch} {G : jG} {X : jX} {Q : State → Prop} {n hg nc : Nat} {ret : Option FieldType} {mu : jM} {x1 : Int32} {x2 : Int32} {x3 : Int32} (h : jOk l G X cX8_tell 4 ret RX8 hg nc)
    (k1 : J l G X Q 4 16 [.ref 58, .int x1, .int (x2 + 1), .int x3] [] mu n) :
    J l G X Q 4 67 [.ref 58, .int x1, .int x2, .int x3] [] mu n := by
  refine J_iinc h dX8_tell_67 rfl (cc_1 _) (by decide) rfl ?_
  show J l G X Q 4 70 [.ref 58, .int x1, .int (x2 + 1), .int x3] [] mu n
  refine J_goto (tgt := 16) h dX8_tell_70 (by decide) ?_
  exact k1
theorem rX8_tell_54 {l : Launch} {G : jG} {X : jX} {Q : State → Prop} {n hg nc : Nat} {ret : Option FieldType} {mu : jM} {x1 : Int32} {x2 : Int32} {x3 : Int32} {y0 : Int32} {y1 : Int32} {y3 : Int32} {y4 : Int32} {Qc : Int32 → jM → Prop} {h' : Nat} (h : jOk l G X cX8_tell 4 ret RX8 hg nc) (hM : jCi l G yX8_otherEnd cX8_otherEnd 3 h' (some .int) (.ref 58 :: [.int y1, .int y0]) mu Qc) (hh : h' < hg ∧ 3 ≤ 21) (hn : n ≤ nc)
    (kk : ∀ v mu', Qc v mu' → J l G X Q 4 57 [.ref 58, .int x1, .int x2, .int x3] (.int v :: [.int y3, .int y4, .ref 58]) mu' n) :
    J l G X Q 4 54 [.ref 58, .int x1, .int x2, .int x3] [.int y0, .int y1, .ref 58, .int y3, .int y4, .ref 58] mu n :=
  J_callVi (As := [.int y1, .int y0]) (rest := [.int y3, .int y4, .ref 58]) h dX8_tell_54 hM (jgV w1245 w1247 w50 w84 w1248) rfl (ci := 8) rfl rfl nmX8_otherEnd rfl hh (Nat.le_of_ble_eq_true rfl) rfl kk hn
theorem rX8_tell_16b {l : Launch} {G : jG} {X : jX} {Q : State → Prop} {n hg nc : Nat} {ret : Option FieldType} {mu : jM} {x1 : Int32} {x2 : Int32} {x3 : Int32} (h : jOk l G X cX8_tell 4 ret RX8 hg nc) (s1 : vp_in x1 24) (s4 : ¬ (mu 61 (x1).toNatClampNeg) ≤ x2 → vp_in ((24 * x1) + x2) 576) (s5 : ¬ (mu 61 (x1).toNatClampNeg) ≤ x2 → vp_in (mu 62 (((24 * x1) + x2)).toNatClampNeg) 60)
    (k3 : (mu 61 (x1).toNatClampNeg) ≤ x2 → J l G X Q 4 73 [.ref 58, .int x1, .int x2, .int x3] [] mu n)
    (k7 : ¬ (mu 61 (x1).toNatClampNeg) ≤ x2 → (mu 87 ((mu 62 (((24 * x1) + x2)).toNatClampNeg)).toNatClampNeg) = 0 → J l G X Q 4 67 [.ref 58, .int x1, .int x2, .int (mu 62 (((24 * x1) + x2)).toNatClampNeg)] [] mu n)
    (k8 : ¬ (mu 61 (x1).toNatClampNeg) ≤ x2 → ¬ (mu 87 ((mu 62 (((24 * x1) + x2)).toNatClampNeg)).toNatClampNeg) = 0 → J l G X Q 4 54 [.ref 58, .int x1, .int x2, .int (mu 62 (((24 * x1) + x2)).toNatClampNeg)] [.int x1, .int (mu 62 (((24 * x1) + x2)).toNatClampNeg), .ref 58, .int x1, .int 6, .ref 58] mu n) :
    J l G X Q 4 16 [.ref 58, .int x1, .int x2, .int x3] [] mu n := by
  refine J_iload_n h dX8_tell_16 rfl rfl ?_
  refine J_aload_n h dX8_tell_17 rfl rfl ?_
  refine J_getr (k := 5) h dX8_tell_18 jc8 rfl rfl (by decide) w989 ?_
  refine J_iload_n h dX8_tell_21 rfl rfl ?_
  refine J_iald h dX8_tell_22 rfl (s1) ?_
  refine J_icmp_ge (tgt := 73) h dX8_tell_23 (by decide) (fun q2 => ?_) (fun q2 => ?_)
  · skip
    exact k3 q2
  · skip
    refine J_aload_n h dX8_tell_26 rfl rfl ?_
    refine J_getr (k := 6) h dX8_tell_27 jc8 rfl rfl (by decide) w990 ?_
    refine J_bipush h dX8_tell_30 cb_24 ?_
    refine J_iload_n h dX8_tell_32 rfl rfl ?_
    refine J_imul h dX8_tell_33 ?_
    refine J_iload_n h dX8_tell_34 rfl rfl ?_
    refine J_iadd h dX8_tell_35 ?_
    refine J_iald h dX8_tell_36 rfl (s4 q2) ?_
    refine J_istore_n h dX8_tell_37 rfl (by decide) rfl ?_
    show J l G X Q 4 38 [.ref 58, .int x1, .int x2, .int (mu 62 (((24 * x1) + x2)).toNatClampNeg)] [] mu n
    refine J_aload_n h dX8_tell_38 rfl rfl ?_
    refine J_getr (k := 36) h dX8_tell_39 jc8 rfl rfl (by decide) w1020 ?_
    refine J_iload_n h dX8_tell_42 rfl rfl ?_
    refine J_zald h dX8_tell_43 rfl (s5 q2) ?_
    refine J_if_eq (tgt := 67) h dX8_tell_44 (by decide) (fun q6 => ?_) (fun q6 => ?_)
    · skip
      exact k7 q2 q6
    · skip
      refine J_aload_n h dX8_tell_47 rfl rfl ?_
      refine J_bipush h dX8_tell_48 cb_6 ?_
      refine J_iload_n h dX8_tell_50 rfl rfl ?_
      refine J_aload_n h dX8_tell_51 rfl rfl ?_
      refine J_iload_n h dX8_tell_52 rfl rfl ?_
      refine J_iload_n h dX8_tell_53 rfl rfl ?_
      exact k8 q2 q6
theorem rX8_tell_57 {l : Launch} {G : jG} {X : jX} {Q : State → Prop} {n hg nc : Nat} {ret : Option FieldType} {mu : jM} {x1 : Int32} {x2 : Int32} {x3 : Int32} {y0 : Int32} {y1 : Int32} {y2 : Int32} (h : jOk l G X cX8_tell 4 ret RX8 hg nc) (s1 : vp_in x1 24)
    (k2 : J l G X Q 4 64 [.ref 58, .int x1, .int x2, .int x3] [.int 0, .int (mu 75 (x1).toNatClampNeg), .int y0, .int y1, .int y2, .ref 58] mu n) :
    J l G X Q 4 57 [.ref 58, .int x1, .int x2, .int x3] [.int y0, .int y1, .int y2, .ref 58] mu n := by
  refine J_aload_n h dX8_tell_57 rfl rfl ?_
  refine J_getr (k := 23) h dX8_tell_58 jc8 rfl rfl (by decide) w1007 ?_
  refine J_iload_n h dX8_tell_61 rfl rfl ?_
  refine J_iald h dX8_tell_62 rfl (s1) ?_
  refine J_iconst h dX8_tell_63 ci_0 ?_
  exact k2
theorem rX8_tell_64 {l : Launch} {G : jG} {X : jX} {Q : State → Prop} {n hg nc : Nat} {ret : Option FieldType} {mu : jM} {x1 : Int32} {x2 : Int32} {x3 : Int32} {y0 : Int32} {y1 : Int32} {y2 : Int32} {y3 : Int32} {y4 : Int32} {Qc : jM → Prop} {h' : Nat} (h : jOk l G X cX8_tell 4 ret RX8 hg nc) (hM : jCv l G yX8_send cX8_send 7 h' (.ref 58 :: [.int y4, .int y3, .int y2, .int y1, .int y0]) mu Qc) (hh : h' < hg ∧ 7 ≤ 21) (hn : n ≤ nc)
    (kk : ∀ mu', Qc mu' → J l G X Q 4 67 [.ref 58, .int x1, .int x2, .int x3] [] mu' n) :
    J l G X Q 4 64 [.ref 58, .int x1, .int x2, .int x3] [.int y0, .int y1, .int y2, .int y3, .int y4, .ref 58] mu n :=
  J_callV (As := [.int y4, .int y3, .int y2, .int y1, .int y0]) (rest := []) h dX8_tell_64 hM (jgV w1313 w1315 w63 w84 w1316) rfl (ci := 8) rfl rfl nmX8_send rfl hh (Nat.le_of_ble_eq_true rfl) rfl kk hn
/-! LockstepNetModel.byClusters(I)Z -/
theorem rX8_byClusters_0 {l : Launch} {G : jG} {X : jX} {Q : State → Prop} {n hg nc : Nat} {ret : Option FieldType} {mu : jM} {x1 : Int32} (h : jOk l G X cX8_byClusters 3 ret RX8 hg nc)
    (k1 : J l G X Q 3 3 [.ref 58, .int x1, .float 0] [.int 1, .int x1, .ref 58] mu n) :
    J l G X Q 3 0 [.ref 58, .int x1, .float 0] [] mu n := by
  refine J_aload_n h dX8_byClusters_0 rfl rfl ?_
  refine J_iload_n h dX8_byClusters_1 rfl rfl ?_
  refine J_iconst h dX8_byClusters_2 ci_1 ?_
  exact k1
theorem rX8_byClusters_3 {l : Launch} {G : jG} {X : jX} {Q : State → Prop} {n hg nc : Nat} {ret : Option FieldType} {mu : jM} {x1 : Int32} {y0 : Int32} {y1 : Int32} {Qc : Int32 → jM → Prop} {h' : Nat} (h : jOk l G X cX8_byClusters 3 ret RX8 hg nc) (hM : jCi l G yX8_childrenOf cX8_childrenOf 5 h' (some .int) (.ref 58 :: [.int y1, .int y0]) mu Qc) (hh : h' < hg ∧ 5 ≤ 21) (hn : n ≤ nc)
    (kk : ∀ v mu', Qc v mu' → J l G X Q 3 6 [.ref 58, .int x1, .float 0] (.int v :: []) mu' n) :
    J l G X Q 3 3 [.ref 58, .int x1, .float 0] [.int y0, .int y1, .ref 58] mu n :=
  J_callVi (As := [.int y1, .int y0]) (rest := []) h dX8_byClusters_3 hM (jgV w1340 w1342 w69 w84 w1343) rfl (ci := 8) rfl rfl nmX8_childrenOf rfl hh (Nat.le_of_ble_eq_true rfl) rfl kk hn
theorem rX8_byClusters_6 {l : Launch} {G : jG} {X : jX} {Q : State → Prop} {n hg nc : Nat} {ret : Option FieldType} {mu : jM} {x1 : Int32} {y0 : Int32} (h : jOk l G X cX8_byClusters 3 ret RX8 hg nc)
    (k1 : J l G X Q 3 9 [.ref 58, .int x1, .int y0] [.int x1, .ref 58] mu n) :
    J l G X Q 3 6 [.ref 58, .int x1, .float 0] [.int y0] mu n := by
  refine J_istore_n h dX8_byClusters_6 rfl (by decide) rfl ?_
  show J l G X Q 3 7 [.ref 58, .int x1, .int y0] [] mu n
  refine J_aload_n h dX8_byClusters_7 rfl rfl ?_
  refine J_iload_n h dX8_byClusters_8 rfl rfl ?_
  exact k1
theorem rX8_byClusters_9 {l : Launch} {G : jG} {X : jX} {Q : State → Prop} {n hg nc : Nat} {ret : Option FieldType} {mu : jM} {x1 : Int32} {x2 : Int32} {y0 : Int32} {Qc : Int32 → jM → Prop} {h' : Nat} (h : jOk l G X cX8_byClusters 3 ret RX8 hg nc) (hM : jCi l G yX8_maySay cX8_maySay 2 h' (some .boolean) (.ref 58 :: [.int y0]) mu Qc) (hh : h' < hg ∧ 2 ≤ 21) (hn : n ≤ nc)
    (kk : ∀ v mu', Qc v mu' → J l G X Q 3 12 [.ref 58, .int x1, .int x2] (.int v :: []) mu' n) :
    J l G X Q 3 9 [.ref 58, .int x1, .int x2] [.int y0, .ref 58] mu n :=
  J_callVi (As := [.int y0]) (rest := []) h dX8_byClusters_9 hM (jgV w1305 w1307 w61 w84 w1308) rfl (ci := 8) rfl rfl nmX8_maySay rfl hh (Nat.le_of_ble_eq_true rfl) rfl kk hn
theorem rX8_byClusters_12 {l : Launch} {G : jG} {X : jX} {Q : State → Prop} {n hg nc : Nat} {ret : Option FieldType} {mu : jM} {x1 : Int32} {x2 : Int32} {y0 : Int32} (h : jOk l G X cX8_byClusters 3 ret RX8 hg nc)
    (k2 : y0 = 0 → J l G X Q 3 71 [.ref 58, .int x1, .int x2] [] mu n)
    (k3 : ¬ y0 = 0 → J l G X Q 3 18 [.ref 58, .int x1, .int x2] [.int 3, .int x1, .ref 58] mu n) :
    J l G X Q 3 12 [.ref 58, .int x1, .int x2] [.int y0] mu n := by
  refine J_if_eq (tgt := 71) h dX8_byClusters_12 (by decide) (fun q1 => ?_) (fun q1 => ?_)
  · skip
    exact k2 q1
  · skip
    refine J_aload_n h dX8_byClusters_15 rfl rfl ?_
    refine J_iload_n h dX8_byClusters_16 rfl rfl ?_
    refine J_iconst h dX8_byClusters_17 ci_3 ?_
    exact k3 q1
theorem rX8_byClusters_71 {l : Launch} {G : jG} {X : jX} {Q : State → Prop} {n hg nc : Nat} {ret : Option FieldType} {mu : jM} {x1 : Int32} {x2 : Int32} (h : jOk l G X cX8_byClusters 3 ret RX8 hg nc) (s1 : vp_in x1 24)
    (k3 : ¬ (mu 80 (x1).toNatClampNeg) = 0 → J l G X Q 3 96 [.ref 58, .int x1, .int x2] [] mu n)
    (k4 : (mu 80 (x1).toNatClampNeg) = 0 → J l G X Q 3 83 [.ref 58, .int x1, .int x2] [.int 5, .int x1, .ref 58] mu n) :
    J l G X Q 3 71 [.ref 58, .int x1, .int x2] [] mu n := by
  refine J_aload_n h dX8_byClusters_71 rfl rfl ?_
  refine J_getr (k := 28) h dX8_byClusters_72 jc8 rfl rfl (by decide) w1012 ?_
  refine J_iload_n h dX8_byClusters_75 rfl rfl ?_
  refine J_zald h dX8_byClusters_76 rfl (s1) ?_
  refine J_if_ne (tgt := 96) h dX8_byClusters_77 (by decide) (fun q2 => ?_) (fun q2 => ?_)
  · skip
    exact k3 q2
  · skip
    refine J_aload_n h dX8_byClusters_80 rfl rfl ?_
    refine J_iload_n h dX8_byClusters_81 rfl rfl ?_
    refine J_iconst h dX8_byClusters_82 ci_5 ?_
    exact k4 q2
theorem rX8_byClusters_18 {l : Launch} {G : jG} {X : jX} {Q : State → Prop} {n hg nc : Nat} {ret : Option FieldType} {mu : jM} {x1 : Int32} {x2 : Int32} {y0 : Int32} {y1 : Int32} {Qc : Int32 → jM → Prop} {h' : Nat} (h : jOk l G X cX8_byClusters 3 ret RX8 hg nc) (hM : jCi l G yX8_cameTo cX8_cameTo 3 h' (some .int) (.ref 58 :: [.int y1, .int y0]) mu Qc) (hh : h' < hg ∧ 3 ≤ 21) (hn : n ≤ nc)
    (kk : ∀ v mu', Qc v mu' → J l G X Q 3 21 [.ref 58, .int x1, .int x2] (.int v :: []) mu' n) :
    J l G X Q 3 18 [.ref 58, .int x1, .int x2] [.int y0, .int y1, .ref 58] mu n :=
  J_callVi (As := [.int y1, .int y0]) (rest := []) h dX8_byClusters_18 hM (jgV w1317 w1319 w64 w84 w1320) rfl (ci := 8) rfl rfl nmX8_cameTo rfl hh (Nat.le_of_ble_eq_true rfl) rfl kk hn
theorem rX8_byClusters_96 {l : Launch} {G : jG} {X : jX} {Q : State → Prop} {n hg nc : Nat} {ret : Option FieldType} {mu : jM} {x1 : Int32} {x2 : Int32} (h : jOk l G X cX8_byClusters 3 ret RX8 hg nc) (s1 : vp_in x1 24) (s4 : ¬ (mu 80 (x1).toNatClampNeg) = 0 → vp_in x1 24)
    (k3 : (mu 80 (x1).toNatClampNeg) = 0 → J l G X Q 3 194 [.ref 58, .int x1, .int x2] [] mu n)
    (k6 : ¬ (mu 80 (x1).toNatClampNeg) = 0 → ¬ (mu 79 (x1).toNatClampNeg) = 0 → J l G X Q 3 194 [.ref 58, .int x1, .int x2] [] mu n)
    (k7 : ¬ (mu 80 (x1).toNatClampNeg) = 0 → (mu 79 (x1).toNatClampNeg) = 0 → J l G X Q 3 118 [.ref 58, .int x1, .int x2] [.int 6, .int x1, .ref 58] mu n) :
    J l G X Q 3 96 [.ref 58, .int x1, .int x2] [] mu n := by
  refine J_aload_n h dX8_byClusters_96 rfl rfl ?_
  refine J_getr (k := 28) h dX8_byClusters_97 jc8 rfl rfl (by decide) w1012 ?_
  refine J_iload_n h dX8_byClusters_100 rfl rfl ?_
  refine J_zald h dX8_byClusters_101 rfl (s1) ?_
  refine J_if_eq (tgt := 194) h dX8_byClusters_102 (by decide) (fun q2 => ?_) (fun q2 => ?_)
  · skip
    exact k3 q2
  · skip
    refine J_aload_n h dX8_byClusters_105 rfl rfl ?_
    refine J_getr (k := 27) h dX8_byClusters_106 jc8 rfl rfl (by decide) w1011 ?_
    refine J_iload_n h dX8_byClusters_109 rfl rfl ?_
    refine J_zald h dX8_byClusters_110 rfl (s4 q2) ?_
    refine J_if_ne (tgt := 194) h dX8_byClusters_111 (by decide) (fun q5 => ?_) (fun q5 => ?_)
    · skip
      exact k6 q2 q5
    · skip
      refine J_aload_n h dX8_byClusters_114 rfl rfl ?_
      refine J_iload_n h dX8_byClusters_115 rfl rfl ?_
      refine J_bipush h dX8_byClusters_116 cb_6 ?_
      exact k7 q2 q5
theorem rX8_byClusters_83 {l : Launch} {G : jG} {X : jX} {Q : State → Prop} {n hg nc : Nat} {ret : Option FieldType} {mu : jM} {x1 : Int32} {x2 : Int32} {y0 : Int32} {y1 : Int32} {Qc : Int32 → jM → Prop} {h' : Nat} (h : jOk l G X cX8_byClusters 3 ret RX8 hg nc) (hM : jCi l G yX8_cameTo cX8_cameTo 3 h' (some .int) (.ref 58 :: [.int y1, .int y0]) mu Qc) (hh : h' < hg ∧ 3 ≤ 21) (hn : n ≤ nc)
    (kk : ∀ v mu', Qc v mu' → J l G X Q 3 86 [.ref 58, .int x1, .int x2] (.int v :: []) mu' n) :
    J l G X Q 3 83 [.ref 58, .int x1, .int x2] [.int y0, .int y1, .ref 58] mu n :=
  J_callVi (As := [.int y1, .int y0]) (rest := []) h dX8_byClusters_83 hM (jgV w1317 w1319 w64 w84 w1320) rfl (ci := 8) rfl rfl nmX8_cameTo rfl hh (Nat.le_of_ble_eq_true rfl) rfl kk hn
theorem rX8_byClusters_21 {l : Launch} {G : jG} {X : jX} {Q : State → Prop} {n hg nc : Nat} {ret : Option FieldType} {mu : jM} {x1 : Int32} {x2 : Int32} {y0 : Int32} (h : jOk l G X cX8_byClusters 3 ret RX8 hg nc) (s3 : y0 = x2 → vp_in x1 24) (s4 : y0 = x2 → vp_in x1 24) (s6 : y0 = x2 → ¬ (mu 85 (x1).toNatClampNeg) = (-1) → vp_in x1 24) (s7 : y0 = x2 → ¬ (mu 85 (x1).toNatClampNeg) = (-1) → vp_in x1 24)
    (k2 : ¬ y0 = x2 → J l G X Q 3 71 [.ref 58, .int x1, .int x2] [] mu n)
    (k8 : y0 = x2 → ¬ (mu 85 (x1).toNatClampNeg) = (-1) → J l G X Q 3 66 [.ref 58, .int x1, .int x2] [.int 0, .int (mu 75 (x1).toNatClampNeg), .int (mu 85 (x1).toNatClampNeg), .int x1, .int 3, .ref 58] (wr mu 78 (x1).toNatClampNeg (vp_nar .boolean 1)) n)
    (k9 : y0 = x2 → (mu 85 (x1).toNatClampNeg) = (-1) → J l G X Q 3 44 [.ref 58, .int x1, .int x2] [.int x1, .ref 58] (wr mu 78 (x1).toNatClampNeg (vp_nar .boolean 1)) n) :
    J l G X Q 3 21 [.ref 58, .int x1, .int x2] [.int y0] mu n := by
  refine J_iload_n h dX8_byClusters_21 rfl rfl ?_
  refine J_icmp_ne (tgt := 71) h dX8_byClusters_22 (by decide) (fun q1 => ?_) (fun q1 => ?_)
  · skip
    exact k2 q1
  · skip
    refine J_aload_n h dX8_byClusters_25 rfl rfl ?_
    refine J_getr (k := 26) h dX8_byClusters_26 jc8 rfl rfl (by decide) w1010 ?_
    refine J_iload_n h dX8_byClusters_29 rfl rfl ?_
    refine J_iconst h dX8_byClusters_30 ci_1 ?_
    refine J_zast h dX8_byClusters_31 rfl (s3 q1) ?_
    refine J_aload_n h dX8_byClusters_32 rfl rfl ?_
    refine J_getr (k := 34) h dX8_byClusters_33 jc8 rfl rfl (by decide) w1018 ?_
    refine J_iload_n h dX8_byClusters_36 rfl rfl ?_
    refine J_iald h dX8_byClusters_37 rfl (s4 q1) ?_
    refine J_iconst h dX8_byClusters_38 ci_m1 ?_
    refine J_icmp_ne (tgt := 50) h dX8_byClusters_39 (by decide) (fun q5 => ?_) (fun q5 => ?_)
    · skip
      refine J_aload_n h dX8_byClusters_50 rfl rfl ?_
      refine J_iconst h dX8_byClusters_51 ci_3 ?_
      refine J_iload_n h dX8_byClusters_52 rfl rfl ?_
      refine J_aload_n h dX8_byClusters_53 rfl rfl ?_
      refine J_getr (k := 34) h dX8_byClusters_54 jc8 rfl rfl (by decide) w1018 ?_
      refine J_iload_n h dX8_byClusters_57 rfl rfl ?_
      refine J_iald h dX8_byClusters_58 rfl (s6 q1 q5) ?_
      refine J_aload_n h dX8_byClusters_59 rfl rfl ?_
      refine J_getr (k := 23) h dX8_byClusters_60 jc8 rfl rfl (by decide) w1007 ?_
      refine J_iload_n h dX8_byClusters_63 rfl rfl ?_
      refine J_iald h dX8_byClusters_64 rfl (s7 q1 q5) ?_
      refine J_iconst h dX8_byClusters_65 ci_0 ?_
      exact k8 q1 q5
    · skip
      refine J_aload_n h dX8_byClusters_42 rfl rfl ?_
      refine J_iload_n h dX8_byClusters_43 rfl rfl ?_
      exact k9 q1 q5
theorem rX8_byClusters_194 {l : Launch} {G : jG} {X : jX} {Q : State → Prop} {n hg nc : Nat} {ret : Option FieldType} {mu : jM} {x1 : Int32} {x2 : Int32} (h : jOk l G X cX8_byClusters 3 ret RX8 hg nc)
    (k1 : J l G X Q 3 197 [.ref 58, .int x1, .int x2] [.int 4, .int x1, .ref 58] mu n) :
    J l G X Q 3 194 [.ref 58, .int x1, .int x2] [] mu n := by
  refine J_aload_n h dX8_byClusters_194 rfl rfl ?_
  refine J_iload_n h dX8_byClusters_195 rfl rfl ?_
  refine J_iconst h dX8_byClusters_196 ci_4 ?_
  exact k1
theorem rX8_byClusters_118 {l : Launch} {G : jG} {X : jX} {Q : State → Prop} {n hg nc : Nat} {ret : Option FieldType} {mu : jM} {x1 : Int32} {x2 : Int32} {y0 : Int32} {y1 : Int32} {Qc : Int32 → jM → Prop} {h' : Nat} (h : jOk l G X cX8_byClusters 3 ret RX8 hg nc) (hM : jCi l G yX8_cameTo cX8_cameTo 3 h' (some .int) (.ref 58 :: [.int y1, .int y0]) mu Qc) (hh : h' < hg ∧ 3 ≤ 21) (hn : n ≤ nc)
    (kk : ∀ v mu', Qc v mu' → J l G X Q 3 121 [.ref 58, .int x1, .int x2] (.int v :: []) mu' n) :
    J l G X Q 3 118 [.ref 58, .int x1, .int x2] [.int y0, .int y1, .ref 58] mu n :=
  J_callVi (As := [.int y1, .int y0]) (rest := []) h dX8_byClusters_118 hM (jgV w1317 w1319 w64 w84 w1320) rfl (ci := 8) rfl rfl nmX8_cameTo rfl hh (Nat.le_of_ble_eq_true rfl) rfl kk hn
theorem rX8_byClusters_86 {l : Launch} {G : jG} {X : jX} {Q : State → Prop} {n hg nc : Nat} {ret : Option FieldType} {mu : jM} {x1 : Int32} {x2 : Int32} {y0 : Int32} (h : jOk l G X cX8_byClusters 3 ret RX8 hg nc)
    (k2 : y0 ≤ 0 → J l G X Q 3 96 [.ref 58, .int x1, .int x2] [] mu n)
    (k3 : ¬ y0 ≤ 0 → J l G X Q 3 91 [.ref 58, .int x1, .int x2] [.int x1, .ref 58] mu n) :
    J l G X Q 3 86 [.ref 58, .int x1, .int x2] [.int y0] mu n := by
  refine J_if_le (tgt := 96) h dX8_byClusters_86 (by decide) (fun q1 => ?_) (fun q1 => ?_)
  · skip
    exact k2 q1
  · skip
    refine J_aload_n h dX8_byClusters_89 rfl rfl ?_
    refine J_iload_n h dX8_byClusters_90 rfl rfl ?_
    exact k3 q1
theorem rX8_byClusters_66 {l : Launch} {G : jG} {X : jX} {Q : State → Prop} {n hg nc : Nat} {ret : Option FieldType} {mu : jM} {x1 : Int32} {x2 : Int32} {y0 : Int32} {y1 : Int32} {y2 : Int32} {y3 : Int32} {y4 : Int32} {Qc : jM → Prop} {h' : Nat} (h : jOk l G X cX8_byClusters 3 ret RX8 hg nc) (hM : jCv l G yX8_send cX8_send 7 h' (.ref 58 :: [.int y4, .int y3, .int y2, .int y1, .int y0]) mu Qc) (hh : h' < hg ∧ 7 ≤ 21) (hn : n ≤ nc)
    (kk : ∀ mu', Qc mu' → J l G X Q 3 69 [.ref 58, .int x1, .int x2] [] mu' n) :
    J l G X Q 3 66 [.ref 58, .int x1, .int x2] [.int y0, .int y1, .int y2, .int y3, .int y4, .ref 58] mu n :=
  J_callV (As := [.int y4, .int y3, .int y2, .int y1, .int y0]) (rest := []) h dX8_byClusters_66 hM (jgV w1313 w1315 w63 w84 w1316) rfl (ci := 8) rfl rfl nmX8_send rfl hh (Nat.le_of_ble_eq_true rfl) rfl kk hn
theorem rX8_byClusters_44 {l : Launch} {G : jG} {X : jX} {Q : State → Prop} {n hg nc : Nat} {ret : Option FieldType} {mu : jM} {x1 : Int32} {x2 : Int32} {y0 : Int32} {Qc : jM → Prop} {h' : Nat} (h : jOk l G X cX8_byClusters 3 ret RX8 hg nc) (hM : jCv l G yX8_tell cX8_tell 4 h' (.ref 58 :: [.int y0]) mu Qc) (hh : h' < hg ∧ 4 ≤ 21) (hn : n ≤ nc)
    (kk : ∀ mu', Qc mu' → J l G X Q 3 47 [.ref 58, .int x1, .int x2] [] mu' n) :
    J l G X Q 3 44 [.ref 58, .int x1, .int x2] [.int y0, .ref 58] mu n :=
  J_callV (As := [.int y0]) (rest := []) h dX8_byClusters_44 hM (jgV w1352 w1354 w72 w84 w1355) rfl (ci := 8) rfl rfl nmX8_tell rfl hh (Nat.le_of_ble_eq_true rfl) rfl kk hn
theorem rX8_byClusters_197 {l : Launch} {G : jG} {X : jX} {Q : State → Prop} {n hg nc : Nat} {ret : Option FieldType} {mu : jM} {x1 : Int32} {x2 : Int32} {y0 : Int32} {y1 : Int32} {Qc : Int32 → jM → Prop} {h' : Nat} (h : jOk l G X cX8_byClusters 3 ret RX8 hg nc) (hM : jCi l G yX8_cameTo cX8_cameTo 3 h' (some .int) (.ref 58 :: [.int y1, .int y0]) mu Qc) (hh : h' < hg ∧ 3 ≤ 21) (hn : n ≤ nc)
    (kk : ∀ v mu', Qc v mu' → J l G X Q 3 200 [.ref 58, .int x1, .int x2] (.int v :: []) mu' n) :
    J l G X Q 3 197 [.ref 58, .int x1, .int x2] [.int y0, .int y1, .ref 58] mu n :=
  J_callVi (As := [.int y1, .int y0]) (rest := []) h dX8_byClusters_197 hM (jgV w1317 w1319 w64 w84 w1320) rfl (ci := 8) rfl rfl nmX8_cameTo rfl hh (Nat.le_of_ble_eq_true rfl) rfl kk hn
theorem rX8_byClusters_121 {l : Launch} {G : jG} {X : jX} {Q : State → Prop} {n hg nc : Nat} {ret : Option FieldType} {mu : jM} {x1 : Int32} {x2 : Int32} {y0 : Int32} (h : jOk l G X cX8_byClusters 3 ret RX8 hg nc)
    (k1 : J l G X Q 3 123 [.ref 58, .int x1, .int x2] [.int x1, .ref 58, .int y0] mu n) :
    J l G X Q 3 121 [.ref 58, .int x1, .int x2] [.int y0] mu n := by
  refine J_aload_n h dX8_byClusters_121 rfl rfl ?_
  refine J_iload_n h dX8_byClusters_122 rfl rfl ?_
  exact k1
theorem rX8_byClusters_91 {l : Launch} {G : jG} {X : jX} {Q : State → Prop} {n hg nc : Nat} {ret : Option FieldType} {mu : jM} {x1 : Int32} {x2 : Int32} {y0 : Int32} {Qc : jM → Prop} {h' : Nat} (h : jOk l G X cX8_byClusters 3 ret RX8 hg nc) (hM : jCv l G yX8_tell cX8_tell 4 h' (.ref 58 :: [.int y0]) mu Qc) (hh : h' < hg ∧ 4 ≤ 21) (hn : n ≤ nc)
    (kk : ∀ mu', Qc mu' → J l G X Q 3 94 [.ref 58, .int x1, .int x2] [] mu' n) :
    J l G X Q 3 91 [.ref 58, .int x1, .int x2] [.int y0, .ref 58] mu n :=
  J_callV (As := [.int y0]) (rest := []) h dX8_byClusters_91 hM (jgV w1352 w1354 w72 w84 w1355) rfl (ci := 8) rfl rfl nmX8_tell rfl hh (Nat.le_of_ble_eq_true rfl) rfl kk hn
theorem rX8_byClusters_69 {l : Launch} {G : jG} {X : jX} {Q : State → Prop} {n hg nc : Nat} {ret : Option FieldType} {mu : jM} {x1 : Int32} {x2 : Int32} (h : jOk l G X cX8_byClusters 3 ret RX8 hg nc)
    (k1 : J l G X Q 3 70 [.ref 58, .int x1, .int x2] [.int 1] mu n) :
    J l G X Q 3 69 [.ref 58, .int x1, .int x2] [] mu n := by
  refine J_iconst h dX8_byClusters_69 ci_1 ?_
  exact k1
theorem rX8_byClusters_47 {l : Launch} {G : jG} {X : jX} {Q : State → Prop} {n hg nc : Nat} {ret : Option FieldType} {mu : jM} {x1 : Int32} {x2 : Int32} (h : jOk l G X cX8_byClusters 3 ret RX8 hg nc)
    (k1 : J l G X Q 3 69 [.ref 58, .int x1, .int x2] [] mu n) :
    J l G X Q 3 47 [.ref 58, .int x1, .int x2] [] mu n := by
  refine J_goto (tgt := 69) h dX8_byClusters_47 (by decide) ?_
  exact k1
theorem rX8_byClusters_200 {l : Launch} {G : jG} {X : jX} {Q : State → Prop} {n hg nc : Nat} {ret : Option FieldType} {mu : jM} {x1 : Int32} {x2 : Int32} {y0 : Int32} (h : jOk l G X cX8_byClusters 3 ret RX8 hg nc)
    (k2 : y0 ≤ 0 → J l G X Q 3 218 [.ref 58, .int x1, .int x2] [.int 0] mu n)
    (k3 : ¬ y0 ≤ 0 → J l G X Q 3 207 [.ref 58, .int x1, .int x2] [.int 1, .int 4, .int x1, .ref 58] mu n) :
    J l G X Q 3 200 [.ref 58, .int x1, .int x2] [.int y0] mu n := by
  refine J_if_le (tgt := 217) h dX8_byClusters_200 (by decide) (fun q1 => ?_) (fun q1 => ?_)
  · skip
    refine J_iconst h dX8_byClusters_217 ci_0 ?_
    exact k2 q1
  · skip
    refine J_aload_n h dX8_byClusters_203 rfl rfl ?_
    refine J_iload_n h dX8_byClusters_204 rfl rfl ?_
    refine J_iconst h dX8_byClusters_205 ci_4 ?_
    refine J_iconst h dX8_byClusters_206 ci_1 ?_
    exact k3 q1
theorem rX8_byClusters_123 {l : Launch} {G : jG} {X : jX} {Q : State → Prop} {n hg nc : Nat} {ret : Option FieldType} {mu : jM} {x1 : Int32} {x2 : Int32} {y0 : Int32} {y2 : Int32} {Qc : Int32 → jM → Prop} {h' : Nat} (h : jOk l G X cX8_byClusters 3 ret RX8 hg nc) (hM : jCi l G yX8_chosenOf cX8_chosenOf 4 h' (some .int) (.ref 58 :: [.int y0]) mu Qc) (hh : h' < hg ∧ 4 ≤ 21) (hn : n ≤ nc)
    (kk : ∀ v mu', Qc v mu' → J l G X Q 3 126 [.ref 58, .int x1, .int x2] (.int v :: [.int y2]) mu' n) :
    J l G X Q 3 123 [.ref 58, .int x1, .int x2] [.int y0, .ref 58, .int y2] mu n :=
  J_callVi (As := [.int y0]) (rest := [.int y2]) h dX8_byClusters_123 hM (jgV w1356 w1358 w73 w84 w1359) rfl (ci := 8) rfl rfl nmX8_chosenOf rfl hh (Nat.le_of_ble_eq_true rfl) rfl kk hn
theorem rX8_byClusters_94 {l : Launch} {G : jG} {X : jX} {Q : State → Prop} {n hg nc : Nat} {ret : Option FieldType} {mu : jM} {x1 : Int32} {x2 : Int32} (h : jOk l G X cX8_byClusters 3 ret RX8 hg nc)
    (k1 : J l G X Q 3 95 [.ref 58, .int x1, .int x2] [.int 1] mu n) :
    J l G X Q 3 94 [.ref 58, .int x1, .int x2] [] mu n := by
  refine J_iconst h dX8_byClusters_94 ci_1 ?_
  exact k1
theorem rX8_byClusters_207 {l : Launch} {G : jG} {X : jX} {Q : State → Prop} {n hg nc : Nat} {ret : Option FieldType} {mu : jM} {x1 : Int32} {x2 : Int32} {y0 : Int32} {y1 : Int32} {y2 : Int32} {Qc : jM → Prop} {h' : Nat} (h : jOk l G X cX8_byClusters 3 ret RX8 hg nc) (hM : jCv l G yX8_toChildren cX8_toChildren 5 h' (.ref 58 :: [.int y2, .int y1, .int y0]) mu Qc) (hh : h' < hg ∧ 5 ≤ 21) (hn : n ≤ nc)
    (kk : ∀ mu', Qc mu' → J l G X Q 3 210 [.ref 58, .int x1, .int x2] [] mu' n) :
    J l G X Q 3 207 [.ref 58, .int x1, .int x2] [.int y0, .int y1, .int y2, .ref 58] mu n :=
  J_callV (As := [.int y2, .int y1, .int y0]) (rest := []) h dX8_byClusters_207 hM (jgV w1344 w1346 w70 w84 w1347) rfl (ci := 8) rfl rfl nmX8_toChildren rfl hh (Nat.le_of_ble_eq_true rfl) rfl kk hn
theorem rX8_byClusters_126 {l : Launch} {G : jG} {X : jX} {Q : State → Prop} {n hg nc : Nat} {ret : Option FieldType} {mu : jM} {x1 : Int32} {x2 : Int32} {y0 : Int32} {y1 : Int32} (h : jOk l G X cX8_byClusters 3 ret RX8 hg nc)
    (k2 : ¬ y1 = y0 → J l G X Q 3 194 [.ref 58, .int x1, .int x2] [] mu n)
    (k3 : y1 = y0 → J l G X Q 3 133 [.ref 58, .int x1, .int x2] [.int 7, .int x1, .ref 58] mu n) :
    J l G X Q 3 126 [.ref 58, .int x1, .int x2] [.int y0, .int y1] mu n := by
  refine J_icmp_ne (tgt := 194) h dX8_byClusters_126 (by decide) (fun q1 => ?_) (fun q1 => ?_)
  · skip
    exact k2 q1
  · skip
    refine J_aload_n h dX8_byClusters_129 rfl rfl ?_
    refine J_iload_n h dX8_byClusters_130 rfl rfl ?_
    refine J_bipush h dX8_byClusters_131 cb_7 ?_
    exact k3 q1
theorem rX8_byClusters_210 {l : Launch} {G : jG} {X : jX} {Q : State → Prop} {n hg nc : Nat} {ret : Option FieldType} {mu : jM} {x1 : Int32} {x2 : Int32} (h : jOk l G X cX8_byClusters 3 ret RX8 hg nc)
    (k1 : J l G X Q 3 212 [.ref 58, .int x1, .int x2] [.int x1, .ref 58] mu n) :
    J l G X Q 3 210 [.ref 58, .int x1, .int x2] [] mu n := by
  refine J_aload_n h dX8_byClusters_210 rfl rfl ?_
  refine J_iload_n h dX8_byClusters_211 rfl rfl ?_
  exact k1
theorem rX8_byClusters_133 {l : Launch} {G : jG} {X : jX} {Q : State → Prop} {n hg nc : Nat} {ret : Option FieldType} {mu : jM} {x1 : Int32} {x2 : Int32} {y0 : Int32} {y1 : Int32} {Qc : Int32 → jM → Prop} {h' : Nat} (h : jOk l G X cX8_byClusters 3 ret RX8 hg nc) (hM : jCi l G yX8_cameTo cX8_cameTo 3 h' (some .int) (.ref 58 :: [.int y1, .int y0]) mu Qc) (hh : h' < hg ∧ 3 ≤ 21) (hn : n ≤ nc)
    (kk : ∀ v mu', Qc v mu' → J l G X Q 3 136 [.ref 58, .int x1, .int x2] (.int v :: []) mu' n) :
    J l G X Q 3 133 [.ref 58, .int x1, .int x2] [.int y0, .int y1, .ref 58] mu n :=
  J_callVi (As := [.int y1, .int y0]) (rest := []) h dX8_byClusters_133 hM (jgV w1317 w1319 w64 w84 w1320) rfl (ci := 8) rfl rfl nmX8_cameTo rfl hh (Nat.le_of_ble_eq_true rfl) rfl kk hn
theorem rX8_byClusters_212 {l : Launch} {G : jG} {X : jX} {Q : State → Prop} {n hg nc : Nat} {ret : Option FieldType} {mu : jM} {x1 : Int32} {x2 : Int32} {y0 : Int32} {Qc : jM → Prop} {h' : Nat} (h : jOk l G X cX8_byClusters 3 ret RX8 hg nc) (hM : jCv l G yX8_next cX8_next 4 h' (.ref 58 :: [.int y0]) mu Qc) (hh : h' < hg ∧ 4 ≤ 21) (hn : n ≤ nc)
    (kk : ∀ mu', Qc mu' → J l G X Q 3 215 [.ref 58, .int x1, .int x2] [] mu' n) :
    J l G X Q 3 212 [.ref 58, .int x1, .int x2] [.int y0, .ref 58] mu n :=
  J_callV (As := [.int y0]) (rest := []) h dX8_byClusters_212 hM (jgV w1324 w1326 w65 w84 w1327) rfl (ci := 8) rfl rfl nmX8_next rfl hh (Nat.le_of_ble_eq_true rfl) rfl kk hn
theorem rX8_byClusters_136 {l : Launch} {G : jG} {X : jX} {Q : State → Prop} {n hg nc : Nat} {ret : Option FieldType} {mu : jM} {x1 : Int32} {x2 : Int32} {y0 : Int32} (h : jOk l G X cX8_byClusters 3 ret RX8 hg nc) (s3 : y0 = x2 → vp_in x1 24) (s4 : y0 = x2 → vp_in x1 24) (s6 : y0 = x2 → ¬ (mu 85 (x1).toNatClampNeg) = (-1) → vp_in x1 24) (s7 : y0 = x2 → ¬ (mu 85 (x1).toNatClampNeg) = (-1) → vp_in x1 24)
    (k2 : ¬ y0 = x2 → J l G X Q 3 194 [.ref 58, .int x1, .int x2] [] mu n)
    (k8 : y0 = x2 → ¬ (mu 85 (x1).toNatClampNeg) = (-1) → J l G X Q 3 189 [.ref 58, .int x1, .int x2] [.int 0, .int (mu 75 (x1).toNatClampNeg), .int (mu 85 (x1).toNatClampNeg), .int x1, .int 7, .ref 58] (wr mu 79 (x1).toNatClampNeg (vp_nar .boolean 1)) n)
    (k9 : y0 = x2 → (mu 85 (x1).toNatClampNeg) = (-1) → J l G X Q 3 161 [.ref 58, .int x1, .int x2] [.int 1, .int 4, .int x1, .ref 58] (wr mu 79 (x1).toNatClampNeg (vp_nar .boolean 1)) n) :
    J l G X Q 3 136 [.ref 58, .int x1, .int x2] [.int y0] mu n := by
  refine J_iload_n h dX8_byClusters_136 rfl rfl ?_
  refine J_icmp_ne (tgt := 194) h dX8_byClusters_137 (by decide) (fun q1 => ?_) (fun q1 => ?_)
  · skip
    exact k2 q1
  · skip
    refine J_aload_n h dX8_byClusters_140 rfl rfl ?_
    refine J_getr (k := 27) h dX8_byClusters_141 jc8 rfl rfl (by decide) w1011 ?_
    refine J_iload_n h dX8_byClusters_144 rfl rfl ?_
    refine J_iconst h dX8_byClusters_145 ci_1 ?_
    refine J_zast h dX8_byClusters_146 rfl (s3 q1) ?_
    refine J_aload_n h dX8_byClusters_147 rfl rfl ?_
    refine J_getr (k := 34) h dX8_byClusters_148 jc8 rfl rfl (by decide) w1018 ?_
    refine J_iload_n h dX8_byClusters_151 rfl rfl ?_
    refine J_iald h dX8_byClusters_152 rfl (s4 q1) ?_
    refine J_iconst h dX8_byClusters_153 ci_m1 ?_
    refine J_icmp_ne (tgt := 172) h dX8_byClusters_154 (by decide) (fun q5 => ?_) (fun q5 => ?_)
    · skip
      refine J_aload_n h dX8_byClusters_172 rfl rfl ?_
      refine J_bipush h dX8_byClusters_173 cb_7 ?_
      refine J_iload_n h dX8_byClusters_175 rfl rfl ?_
      refine J_aload_n h dX8_byClusters_176 rfl rfl ?_
      refine J_getr (k := 34) h dX8_byClusters_177 jc8 rfl rfl (by decide) w1018 ?_
      refine J_iload_n h dX8_byClusters_180 rfl rfl ?_
      refine J_iald h dX8_byClusters_181 rfl (s6 q1 q5) ?_
      refine J_aload_n h dX8_byClusters_182 rfl rfl ?_
      refine J_getr (k := 23) h dX8_byClusters_183 jc8 rfl rfl (by decide) w1007 ?_
      refine J_iload_n h dX8_byClusters_186 rfl rfl ?_
      refine J_iald h dX8_byClusters_187 rfl (s7 q1 q5) ?_
      refine J_iconst h dX8_byClusters_188 ci_0 ?_
      exact k8 q1 q5
    · skip
      refine J_aload_n h dX8_byClusters_157 rfl rfl ?_
      refine J_iload_n h dX8_byClusters_158 rfl rfl ?_
      refine J_iconst h dX8_byClusters_159 ci_4 ?_
      refine J_iconst h dX8_byClusters_160 ci_1 ?_
      exact k9 q1 q5
theorem rX8_byClusters_215 {l : Launch} {G : jG} {X : jX} {Q : State → Prop} {n hg nc : Nat} {ret : Option FieldType} {mu : jM} {x1 : Int32} {x2 : Int32} (h : jOk l G X cX8_byClusters 3 ret RX8 hg nc)
    (k1 : J l G X Q 3 216 [.ref 58, .int x1, .int x2] [.int 1] mu n) :
    J l G X Q 3 215 [.ref 58, .int x1, .int x2] [] mu n := by
  refine J_iconst h dX8_byClusters_215 ci_1 ?_
  exact k1
theorem rX8_byClusters_189 {l : Launch} {G : jG} {X : jX} {Q : State → Prop} {n hg nc : Nat} {ret : Option FieldType} {mu : jM} {x1 : Int32} {x2 : Int32} {y0 : Int32} {y1 : Int32} {y2 : Int32} {y3 : Int32} {y4 : Int32} {Qc : jM → Prop} {h' : Nat} (h : jOk l G X cX8_byClusters 3 ret RX8 hg nc) (hM : jCv l G yX8_send cX8_send 7 h' (.ref 58 :: [.int y4, .int y3, .int y2, .int y1, .int y0]) mu Qc) (hh : h' < hg ∧ 7 ≤ 21) (hn : n ≤ nc)
    (kk : ∀ mu', Qc mu' → J l G X Q 3 192 [.ref 58, .int x1, .int x2] [] mu' n) :
    J l G X Q 3 189 [.ref 58, .int x1, .int x2] [.int y0, .int y1, .int y2, .int y3, .int y4, .ref 58] mu n :=
  J_callV (As := [.int y4, .int y3, .int y2, .int y1, .int y0]) (rest := []) h dX8_byClusters_189 hM (jgV w1313 w1315 w63 w84 w1316) rfl (ci := 8) rfl rfl nmX8_send rfl hh (Nat.le_of_ble_eq_true rfl) rfl kk hn
theorem rX8_byClusters_161 {l : Launch} {G : jG} {X : jX} {Q : State → Prop} {n hg nc : Nat} {ret : Option FieldType} {mu : jM} {x1 : Int32} {x2 : Int32} {y0 : Int32} {y1 : Int32} {y2 : Int32} {Qc : jM → Prop} {h' : Nat} (h : jOk l G X cX8_byClusters 3 ret RX8 hg nc) (hM : jCv l G yX8_toChildren cX8_toChildren 5 h' (.ref 58 :: [.int y2, .int y1, .int y0]) mu Qc) (hh : h' < hg ∧ 5 ≤ 21) (hn : n ≤ nc)
    (kk : ∀ mu', Qc mu' → J l G X Q 3 164 [.ref 58, .int x1, .int x2] [] mu' n) :
    J l G X Q 3 161 [.ref 58, .int x1, .int x2] [.int y0, .int y1, .int y2, .ref 58] mu n :=
  J_callV (As := [.int y2, .int y1, .int y0]) (rest := []) h dX8_byClusters_161 hM (jgV w1344 w1346 w70 w84 w1347) rfl (ci := 8) rfl rfl nmX8_toChildren rfl hh (Nat.le_of_ble_eq_true rfl) rfl kk hn
theorem rX8_byClusters_192 {l : Launch} {G : jG} {X : jX} {Q : State → Prop} {n hg nc : Nat} {ret : Option FieldType} {mu : jM} {x1 : Int32} {x2 : Int32} (h : jOk l G X cX8_byClusters 3 ret RX8 hg nc)
    (k1 : J l G X Q 3 193 [.ref 58, .int x1, .int x2] [.int 1] mu n) :
    J l G X Q 3 192 [.ref 58, .int x1, .int x2] [] mu n := by
  refine J_iconst h dX8_byClusters_192 ci_1 ?_
  exact k1
theorem rX8_byClusters_164 {l : Launch} {G : jG} {X : jX} {Q : State → Prop} {n hg nc : Nat} {ret : Option FieldType} {mu : jM} {x1 : Int32} {x2 : Int32} (h : jOk l G X cX8_byClusters 3 ret RX8 hg nc)
    (k1 : J l G X Q 3 166 [.ref 58, .int x1, .int x2] [.int x1, .ref 58] mu n) :
    J l G X Q 3 164 [.ref 58, .int x1, .int x2] [] mu n := by
  refine J_aload_n h dX8_byClusters_164 rfl rfl ?_
  refine J_iload_n h dX8_byClusters_165 rfl rfl ?_
  exact k1
theorem rX8_byClusters_166 {l : Launch} {G : jG} {X : jX} {Q : State → Prop} {n hg nc : Nat} {ret : Option FieldType} {mu : jM} {x1 : Int32} {x2 : Int32} {y0 : Int32} {Qc : jM → Prop} {h' : Nat} (h : jOk l G X cX8_byClusters 3 ret RX8 hg nc) (hM : jCv l G yX8_next cX8_next 4 h' (.ref 58 :: [.int y0]) mu Qc) (hh : h' < hg ∧ 4 ≤ 21) (hn : n ≤ nc)
    (kk : ∀ mu', Qc mu' → J l G X Q 3 169 [.ref 58, .int x1, .int x2] [] mu' n) :
    J l G X Q 3 166 [.ref 58, .int x1, .int x2] [.int y0, .ref 58] mu n :=
  J_callV (As := [.int y0]) (rest := []) h dX8_byClusters_166 hM (jgV w1324 w1326 w65 w84 w1327) rfl (ci := 8) rfl rfl nmX8_next rfl hh (Nat.le_of_ble_eq_true rfl) rfl kk hn
theorem rX8_byClusters_169 {l : Launch} {G : jG} {X : jX} {Q : State → Prop} {n hg nc : Nat} {ret : Option FieldType} {mu : jM} {x1 : Int32} {x2 : Int32} (h : jOk l G X cX8_byClusters 3 ret RX8 hg nc)
    (k1 : J l G X Q 3 192 [.ref 58, .int x1, .int x2] [] mu n) :
    J l G X Q 3 169 [.ref 58, .int x1, .int x2] [] mu n := by
  refine J_goto (tgt := 192) h dX8_byClusters_169 (by decide) ?_
  exact k1
/-! LockstepNetModel.act(I)V -/
theorem rX8_act_0 {l : Launch} {G : jG} {X : jX} {Q : State → Prop} {n hg nc : Nat} {ret : Option FieldType} {mu : jM} {x1 : Int32} (h : jOk l G X cX8_act 4 ret RX8 hg nc)
    (k1 : J l G X Q 4 2 [.ref 58, .int x1, .int 1, .float 0] [] mu n) :
    J l G X Q 4 0 [.ref 58, .int x1, .float 0, .float 0] [] mu n := by
  refine J_iconst h dX8_act_0 ci_1 ?_
  refine J_istore_n h dX8_act_1 rfl (by decide) rfl ?_
  show J l G X Q 4 2 [.ref 58, .int x1, .int 1, .float 0] [] mu n
  exact k1
theorem rX8_act_2 {l : Launch} {G : jG} {X : jX} {Q : State → Prop} {n hg nc : Nat} {ret : Option FieldType} {mu : jM} {x1 : Int32} {x2 : Int32} (h : jOk l G X cX8_act 4 ret RX8 hg nc) (s3 : ¬ x2 = 0 → vp_in x1 24)
    (k2 : x2 = 0 → J l G X Q 4 51 [.ref 58, .int x1, .int x2, .float 0] [] mu n)
    (k4 : ¬ x2 = 0 → J l G X Q 4 13 [.ref 58, .int x1, .int x2, .float 0] [.int (mu 75 (x1).toNatClampNeg), .ref 58] mu n) :
    J l G X Q 4 2 [.ref 58, .int x1, .int x2, .float 0] [] mu n := by
  refine J_iload_n h dX8_act_2 rfl rfl ?_
  refine J_if_eq (tgt := 51) h dX8_act_3 (by decide) (fun q1 => ?_) (fun q1 => ?_)
  · skip
    exact k2 q1
  · skip
    refine J_aload_n h dX8_act_6 rfl rfl ?_
    refine J_aload_n h dX8_act_7 rfl rfl ?_
    refine J_getr (k := 23) h dX8_act_8 jc8 rfl rfl (by decide) w1007 ?_
    refine J_iload_n h dX8_act_11 rfl rfl ?_
    refine J_iald h dX8_act_12 rfl (s3 q1) ?_
    exact k4 q1
theorem rX8_act_13 {l : Launch} {G : jG} {X : jX} {Q : State → Prop} {n hg nc : Nat} {ret : Option FieldType} {mu : jM} {x1 : Int32} {x2 : Int32} {y0 : Int32} {Qc : Int32 → jM → Prop} {h' : Nat} (h : jOk l G X cX8_act 4 ret RX8 hg nc) (hM : jCi l G yX8_wayOf cX8_wayOf 4 h' (some .int) (.ref 58 :: [.int y0]) mu Qc) (hh : h' < hg ∧ 4 ≤ 21) (hn : n ≤ nc)
    (kk : ∀ v mu', Qc v mu' → J l G X Q 4 16 [.ref 58, .int x1, .int x2, .float 0] (.int v :: []) mu' n) :
    J l G X Q 4 13 [.ref 58, .int x1, .int x2, .float 0] [.int y0, .ref 58] mu n :=
  J_callVi (As := [.int y0]) (rest := []) h dX8_act_13 hM (jgV w1297 w1299 w59 w84 w1300) rfl (ci := 8) rfl rfl nmX8_wayOf rfl hh (Nat.le_of_ble_eq_true rfl) rfl kk hn
theorem rX8_act_16 {l : Launch} {G : jG} {X : jX} {Q : State → Prop} {n hg nc : Nat} {ret : Option FieldType} {mu : jM} {x1 : Int32} {x2 : Int32} {y0 : Int32} (h : jOk l G X cX8_act 4 ret RX8 hg nc)
    (k3 : ¬ y0 = 0 → ¬ y0 = 1 → J l G X Q 4 44 [.ref 58, .int x1, .int x2, .int y0] [.int x1, .ref 58] mu n)
    (k4 : ¬ y0 = 0 → y0 = 1 → J l G X Q 4 36 [.ref 58, .int x1, .int x2, .int y0] [.int x1, .ref 58] mu n)
    (k5 : y0 = 0 → J l G X Q 4 23 [.ref 58, .int x1, .int x2, .int y0] [.int x1, .ref 58] mu n) :
    J l G X Q 4 16 [.ref 58, .int x1, .int x2, .float 0] [.int y0] mu n := by
  refine J_istore_n h dX8_act_16 rfl (by decide) rfl ?_
  show J l G X Q 4 17 [.ref 58, .int x1, .int x2, .int y0] [] mu n
  refine J_iload_n h dX8_act_17 rfl rfl ?_
  refine J_if_ne (tgt := 29) h dX8_act_18 (by decide) (fun q1 => ?_) (fun q1 => ?_)
  · skip
    refine J_iload_n h dX8_act_29 rfl rfl ?_
    refine J_iconst h dX8_act_30 ci_1 ?_
    refine J_icmp_ne (tgt := 42) h dX8_act_31 (by decide) (fun q2 => ?_) (fun q2 => ?_)
    · skip
      refine J_aload_n h dX8_act_42 rfl rfl ?_
      refine J_iload_n h dX8_act_43 rfl rfl ?_
      exact k3 q1 q2
    · skip
      refine J_aload_n h dX8_act_34 rfl rfl ?_
      refine J_iload_n h dX8_act_35 rfl rfl ?_
      exact k4 q1 q2
  · skip
    refine J_aload_n h dX8_act_21 rfl rfl ?_
    refine J_iload_n h dX8_act_22 rfl rfl ?_
    exact k5 q1
theorem rX8_act_44 {l : Launch} {G : jG} {X : jX} {Q : State → Prop} {n hg nc : Nat} {ret : Option FieldType} {mu : jM} {x1 : Int32} {x2 : Int32} {x3 : Int32} {y0 : Int32} {Qc : Int32 → jM → Prop} {h' : Nat} (h : jOk l G X cX8_act 4 ret RX8 hg nc) (hM : jCi l G yX8_byClusters cX8_byClusters 3 h' (some .boolean) (.ref 58 :: [.int y0]) mu Qc) (hh : h' < hg ∧ 3 ≤ 21) (hn : n ≤ nc)
    (kk : ∀ v mu', Qc v mu' → J l G X Q 4 47 [.ref 58, .int x1, .int x2, .int x3] (.int v :: []) mu' n) :
    J l G X Q 4 44 [.ref 58, .int x1, .int x2, .int x3] [.int y0, .ref 58] mu n :=
  J_callVi (As := [.int y0]) (rest := []) h dX8_act_44 hM (jgV w1348 w1350 w71 w84 w1351) rfl (ci := 8) rfl rfl nmX8_byClusters rfl hh (Nat.le_of_ble_eq_true rfl) rfl kk hn
theorem rX8_act_36 {l : Launch} {G : jG} {X : jX} {Q : State → Prop} {n hg nc : Nat} {ret : Option FieldType} {mu : jM} {x1 : Int32} {x2 : Int32} {x3 : Int32} {y0 : Int32} {Qc : Int32 → jM → Prop} {h' : Nat} (h : jOk l G X cX8_act 4 ret RX8 hg nc) (hM : jCi l G yX8_byTree cX8_byTree 2 h' (some .boolean) (.ref 58 :: [.int y0]) mu Qc) (hh : h' < hg ∧ 2 ≤ 21) (hn : n ≤ nc)
    (kk : ∀ v mu', Qc v mu' → J l G X Q 4 39 [.ref 58, .int x1, .int x2, .int x3] (.int v :: []) mu' n) :
    J l G X Q 4 36 [.ref 58, .int x1, .int x2, .int x3] [.int y0, .ref 58] mu n :=
  J_callVi (As := [.int y0]) (rest := []) h dX8_act_36 hM (jgV w1336 w1338 w68 w84 w1339) rfl (ci := 8) rfl rfl nmX8_byTree rfl hh (Nat.le_of_ble_eq_true rfl) rfl kk hn
theorem rX8_act_23 {l : Launch} {G : jG} {X : jX} {Q : State → Prop} {n hg nc : Nat} {ret : Option FieldType} {mu : jM} {x1 : Int32} {x2 : Int32} {x3 : Int32} {y0 : Int32} {Qc : Int32 → jM → Prop} {h' : Nat} (h : jOk l G X cX8_act 4 ret RX8 hg nc) (hM : jCi l G yX8_byNodes cX8_byNodes 2 h' (some .boolean) (.ref 58 :: [.int y0]) mu Qc) (hh : h' < hg ∧ 2 ≤ 21) (hn : n ≤ nc)
    (kk : ∀ v mu', Qc v mu' → J l G X Q 4 26 [.ref 58, .int x1, .int x2, .int x3] (.int v :: []) mu' n) :
    J l G X Q 4 23 [.ref 58, .int x1, .int x2, .int x3] [.int y0, .ref 58] mu n :=
  J_callVi (As := [.int y0]) (rest := []) h dX8_act_23 hM (jgV w1301 w1303 w60 w84 w1304) rfl (ci := 8) rfl rfl nmX8_byNodes rfl hh (Nat.le_of_ble_eq_true rfl) rfl kk hn
theorem rX8_act_47 {l : Launch} {G : jG} {X : jX} {Q : State → Prop} {n hg nc : Nat} {ret : Option FieldType} {mu : jM} {x1 : Int32} {x2 : Int32} {x3 : Int32} {y0 : Int32} (h : jOk l G X cX8_act 4 ret RX8 hg nc)
    (k1 : J l G X Q 4 2 [.ref 58, .int x1, .int y0, .int x3] [] mu n) :
    J l G X Q 4 47 [.ref 58, .int x1, .int x2, .int x3] [.int y0] mu n := by
  refine J_istore_n h dX8_act_47 rfl (by decide) rfl ?_
  show J l G X Q 4 48 [.ref 58, .int x1, .int y0, .int x3] [] mu n
  refine J_goto (tgt := 2) h dX8_act_48 (by decide) ?_
  exact k1
theorem rX8_act_39 {l : Launch} {G : jG} {X : jX} {Q : State → Prop} {n hg nc : Nat} {ret : Option FieldType} {mu : jM} {x1 : Int32} {x2 : Int32} {x3 : Int32} {y0 : Int32} (h : jOk l G X cX8_act 4 ret RX8 hg nc)
    (k1 : J l G X Q 4 2 [.ref 58, .int x1, .int y0, .int x3] [] mu n) :
    J l G X Q 4 39 [.ref 58, .int x1, .int x2, .int x3] [.int y0] mu n := by
  refine J_goto (tgt := 47) h dX8_act_39 (by decide) ?_
  refine J_istore_n h dX8_act_47 rfl (by decide) rfl ?_
  show J l G X Q 4 48 [.ref 58, .int x1, .int y0, .int x3] [] mu n
  refine J_goto (tgt := 2) h dX8_act_48 (by decide) ?_
  exact k1
theorem rX8_act_26 {l : Launch} {G : jG} {X : jX} {Q : State → Prop} {n hg nc : Nat} {ret : Option FieldType} {mu : jM} {x1 : Int32} {x2 : Int32} {x3 : Int32} {y0 : Int32} (h : jOk l G X cX8_act 4 ret RX8 hg nc)
    (k1 : J l G X Q 4 2 [.ref 58, .int x1, .int y0, .int x3] [] mu n) :
    J l G X Q 4 26 [.ref 58, .int x1, .int x2, .int x3] [.int y0] mu n := by
  refine J_goto (tgt := 47) h dX8_act_26 (by decide) ?_
  refine J_istore_n h dX8_act_47 rfl (by decide) rfl ?_
  show J l G X Q 4 48 [.ref 58, .int x1, .int y0, .int x3] [] mu n
  refine J_goto (tgt := 2) h dX8_act_48 (by decide) ?_
  exact k1
theorem rX8_act_2b {l : Launch} {G : jG} {X : jX} {Q : State → Prop} {n hg nc : Nat} {ret : Option FieldType} {mu : jM} {x1 : Int32} {x2 : Int32} {x3 : Int32} (h : jOk l G X cX8_act 4 ret RX8 hg nc) (s3 : ¬ x2 = 0 → vp_in x1 24)
    (k2 : x2 = 0 → J l G X Q 4 51 [.ref 58, .int x1, .int x2, .int x3] [] mu n)
    (k4 : ¬ x2 = 0 → J l G X Q 4 13 [.ref 58, .int x1, .int x2, .int x3] [.int (mu 75 (x1).toNatClampNeg), .ref 58] mu n) :
    J l G X Q 4 2 [.ref 58, .int x1, .int x2, .int x3] [] mu n := by
  refine J_iload_n h dX8_act_2 rfl rfl ?_
  refine J_if_eq (tgt := 51) h dX8_act_3 (by decide) (fun q1 => ?_) (fun q1 => ?_)
  · skip
    exact k2 q1
  · skip
    refine J_aload_n h dX8_act_6 rfl rfl ?_
    refine J_aload_n h dX8_act_7 rfl rfl ?_
    refine J_getr (k := 23) h dX8_act_8 jc8 rfl rfl (by decide) w1007 ?_
    refine J_iload_n h dX8_act_11 rfl rfl ?_
    refine J_iald h dX8_act_12 rfl (s3 q1) ?_
    exact k4 q1
theorem rX8_act_13b {l : Launch} {G : jG} {X : jX} {Q : State → Prop} {n hg nc : Nat} {ret : Option FieldType} {mu : jM} {x1 : Int32} {x2 : Int32} {x3 : Int32} {y0 : Int32} {Qc : Int32 → jM → Prop} {h' : Nat} (h : jOk l G X cX8_act 4 ret RX8 hg nc) (hM : jCi l G yX8_wayOf cX8_wayOf 4 h' (some .int) (.ref 58 :: [.int y0]) mu Qc) (hh : h' < hg ∧ 4 ≤ 21) (hn : n ≤ nc)
    (kk : ∀ v mu', Qc v mu' → J l G X Q 4 16 [.ref 58, .int x1, .int x2, .int x3] (.int v :: []) mu' n) :
    J l G X Q 4 13 [.ref 58, .int x1, .int x2, .int x3] [.int y0, .ref 58] mu n :=
  J_callVi (As := [.int y0]) (rest := []) h dX8_act_13 hM (jgV w1297 w1299 w59 w84 w1300) rfl (ci := 8) rfl rfl nmX8_wayOf rfl hh (Nat.le_of_ble_eq_true rfl) rfl kk hn
theorem rX8_act_16b {l : Launch} {G : jG} {X : jX} {Q : State → Prop} {n hg nc : Nat} {ret : Option FieldType} {mu : jM} {x1 : Int32} {x2 : Int32} {x3 : Int32} {y0 : Int32} (h : jOk l G X cX8_act 4 ret RX8 hg nc)
    (k3 : ¬ y0 = 0 → ¬ y0 = 1 → J l G X Q 4 44 [.ref 58, .int x1, .int x2, .int y0] [.int x1, .ref 58] mu n)
    (k4 : ¬ y0 = 0 → y0 = 1 → J l G X Q 4 36 [.ref 58, .int x1, .int x2, .int y0] [.int x1, .ref 58] mu n)
    (k5 : y0 = 0 → J l G X Q 4 23 [.ref 58, .int x1, .int x2, .int y0] [.int x1, .ref 58] mu n) :
    J l G X Q 4 16 [.ref 58, .int x1, .int x2, .int x3] [.int y0] mu n := by
  refine J_istore_n h dX8_act_16 rfl (by decide) rfl ?_
  show J l G X Q 4 17 [.ref 58, .int x1, .int x2, .int y0] [] mu n
  refine J_iload_n h dX8_act_17 rfl rfl ?_
  refine J_if_ne (tgt := 29) h dX8_act_18 (by decide) (fun q1 => ?_) (fun q1 => ?_)
  · skip
    refine J_iload_n h dX8_act_29 rfl rfl ?_
    refine J_iconst h dX8_act_30 ci_1 ?_
    refine J_icmp_ne (tgt := 42) h dX8_act_31 (by decide) (fun q2 => ?_) (fun q2 => ?_)
    · skip
      refine J_aload_n h dX8_act_42 rfl rfl ?_
      refine J_iload_n h dX8_act_43 rfl rfl ?_
      exact k3 q1 q2
    · skip
      refine J_aload_n h dX8_act_34 rfl rfl ?_
      refine J_iload_n h dX8_act_35 rfl rfl ?_
      exact k4 q1 q2
  · skip
    refine J_aload_n h dX8_act_21 rfl rfl ?_
    refine J_iload_n h dX8_act_22 rfl rfl ?_
    exact k5 q1
/-! LockstepNetModel.release()V -/
theorem rX8_release_0 {l : Launch} {G : jG} {X : jX} {Q : State → Prop} {n hg nc : Nat} {ret : Option FieldType} {mu : jM} (h : jOk l G X cX8_release 1 ret RX8 hg nc)
    (k2 : (mu 58 18) = 0 → J l G X Q 1 21 [.ref 58] [] (wr (wr mu 58 0 1) 58 18 0) n)
    (k3 : ¬ (mu 58 18) = 0 → J l G X Q 1 21 [.ref 58] [] (wr (wr mu 58 0 0) 58 18 0) n) :
    J l G X Q 1 0 [.ref 58] [] mu n := by
  refine J_aload_n h dX8_release_0 rfl rfl ?_
  refine J_aload_n h dX8_release_1 rfl rfl ?_
  refine J_geti (k := 18) h dX8_release_2 jc8 rfl rfl (by decide) w1002 ?_
  refine J_if_eq (tgt := 12) h dX8_release_5 (by decide) (fun q1 => ?_) (fun q1 => ?_)
  · skip
    refine J_iconst h dX8_release_12 ci_1 ?_
    refine J_puti (k := 0) (ty0 := tyX8) h dX8_release_13 jc8 tyX8_ok nmX8 rfl rfl (by decide) rfl rfl rfl w984 ?_
    refine J_aload_n h dX8_release_16 rfl rfl ?_
    refine J_iconst h dX8_release_17 ci_0 ?_
    refine J_puti (k := 18) (ty0 := tyX8) h dX8_release_18 jc8 tyX8_ok nmX8 rfl rfl (by decide) rfl (by decide) (jfitZ _ (by decide)) w1002 ?_
    exact k2 q1
  · skip
    refine J_iconst h dX8_release_8 ci_0 ?_
    refine J_goto (tgt := 13) h dX8_release_9 (by decide) ?_
    refine J_puti (k := 0) (ty0 := tyX8) h dX8_release_13 jc8 tyX8_ok nmX8 rfl rfl (by decide) rfl rfl rfl w984 ?_
    refine J_aload_n h dX8_release_16 rfl rfl ?_
    refine J_iconst h dX8_release_17 ci_0 ?_
    refine J_puti (k := 18) (ty0 := tyX8) h dX8_release_18 jc8 tyX8_ok nmX8 rfl rfl (by decide) rfl (by decide) (jfitZ _ (by decide)) w1002 ?_
    exact k3 q1
/-! LockstepNetModel.stopAt(I)V -/
theorem rX8_stopAt_0 {l : Launch} {G : jG} {X : jX} {Q : State → Prop} {n hg nc : Nat} {ret : Option FieldType} {mu : jM} {x1 : Int32} (h : jOk l G X cX8_stopAt 3 ret RX8 hg nc)
    (k4 : ¬ (mu 58 18) = 0 → 500 < x1 → J l G X Q 3 42 [.ref 58, .int x1, .float 0] [] (wr mu 58 0 2) n)
    (k7 : ¬ (mu 58 18) = 0 → ¬ 500 < x1 → (mu 58 19) ≤ x1 → J l G X Q 3 50 [.ref 58, .int x1, .int 0] [] (wr (wr mu 58 0 0) 58 19 x1) n)
    (k9 : ¬ (mu 58 18) = 0 → ¬ 500 < x1 → ¬ (mu 58 19) ≤ x1 → J l G X Q 3 42 [.ref 58, .int x1, .float 0] [] (wr mu 58 0 2) n)
    (k11 : (mu 58 18) = 0 → J l G X Q 3 42 [.ref 58, .int x1, .float 0] [] (wr mu 58 0 1) n) :
    J l G X Q 3 0 [.ref 58, .int x1, .float 0] [] mu n := by
  refine J_aload_n h dX8_stopAt_0 rfl rfl ?_
  refine J_aload_n h dX8_stopAt_1 rfl rfl ?_
  refine J_geti (k := 18) h dX8_stopAt_2 jc8 rfl rfl (by decide) w1002 ?_
  refine J_if_ne (tgt := 12) h dX8_stopAt_5 (by decide) (fun q1 => ?_) (fun q1 => ?_)
  · skip
    refine J_iload_n h dX8_stopAt_12 rfl rfl ?_
    refine J_sipush h dX8_stopAt_13 cs_500 ?_
    refine J_icmp_gt (tgt := 27) h dX8_stopAt_16 (by decide) (fun q2 => ?_) (fun q2 => ?_)
    · skip
      refine J_iconst h dX8_stopAt_27 ci_2 ?_
      refine J_goto (tgt := 32) h dX8_stopAt_28 (by decide) ?_
      refine J_puti (k := 0) (ty0 := tyX8) h dX8_stopAt_32 jc8 tyX8_ok nmX8 rfl rfl (by decide) rfl rfl rfl w984 ?_
      refine J_aload_n h dX8_stopAt_35 rfl rfl ?_
      refine J_geti (k := 0) h dX8_stopAt_36 jc8 rfl rfl (by decide) w984 ?_
      refine J_if_le (tgt := 43) h dX8_stopAt_39 (by decide) (fun q3 => ?_) (fun q3 => ?_)
      · skip
        exact absurd (show (2 : Int32) ≤ (0 : Int32) from q3) (by decide)
      · skip
        exact k4 q1 q2
    · skip
      refine J_iload_n h dX8_stopAt_19 rfl rfl ?_
      refine J_aload_n h dX8_stopAt_20 rfl rfl ?_
      refine J_geti (k := 19) h dX8_stopAt_21 jc8 rfl rfl (by decide) w1003 ?_
      refine J_icmp_ge (tgt := 31) h dX8_stopAt_24 (by decide) (fun q5 => ?_) (fun q5 => ?_)
      · skip
        refine J_iconst h dX8_stopAt_31 ci_0 ?_
        refine J_puti (k := 0) (ty0 := tyX8) h dX8_stopAt_32 jc8 tyX8_ok nmX8 rfl rfl (by decide) rfl rfl rfl w984 ?_
        refine J_aload_n h dX8_stopAt_35 rfl rfl ?_
        refine J_geti (k := 0) h dX8_stopAt_36 jc8 rfl rfl (by decide) w984 ?_
        refine J_if_le (tgt := 43) h dX8_stopAt_39 (by decide) (fun q6 => ?_) (fun q6 => ?_)
        · skip
          refine J_aload_n h dX8_stopAt_43 rfl rfl ?_
          refine J_iload_n h dX8_stopAt_44 rfl rfl ?_
          refine J_puti (k := 19) (ty0 := tyX8) h dX8_stopAt_45 jc8 tyX8_ok nmX8 rfl rfl (by decide) rfl rfl rfl w1003 ?_
          refine J_iconst h dX8_stopAt_48 ci_0 ?_
          refine J_istore_n h dX8_stopAt_49 rfl (by decide) rfl ?_
          show J l G X Q 3 50 [.ref 58, .int x1, .int 0] [] (wr (wr mu 58 0 0) 58 19 x1) n
          exact k7 q1 q2 q5
        · skip
          exact absurd (show ¬ (0 : Int32) ≤ (0 : Int32) from q6) (by decide)
      · skip
        refine J_iconst h dX8_stopAt_27 ci_2 ?_
        refine J_goto (tgt := 32) h dX8_stopAt_28 (by decide) ?_
        refine J_puti (k := 0) (ty0 := tyX8) h dX8_stopAt_32 jc8 tyX8_ok nmX8 rfl rfl (by decide) rfl rfl rfl w984 ?_
        refine J_aload_n h dX8_stopAt_35 rfl rfl ?_
        refine J_geti (k := 0) h dX8_stopAt_36 jc8 rfl rfl (by decide) w984 ?_
        refine J_if_le (tgt := 43) h dX8_stopAt_39 (by decide) (fun q8 => ?_) (fun q8 => ?_)
        · skip
          exact absurd (show (2 : Int32) ≤ (0 : Int32) from q8) (by decide)
        · skip
          exact k9 q1 q2 q5
  · skip
    refine J_iconst h dX8_stopAt_8 ci_1 ?_
    refine J_goto (tgt := 32) h dX8_stopAt_9 (by decide) ?_
    refine J_puti (k := 0) (ty0 := tyX8) h dX8_stopAt_32 jc8 tyX8_ok nmX8 rfl rfl (by decide) rfl rfl rfl w984 ?_
    refine J_aload_n h dX8_stopAt_35 rfl rfl ?_
    refine J_geti (k := 0) h dX8_stopAt_36 jc8 rfl rfl (by decide) w984 ?_
    refine J_if_le (tgt := 43) h dX8_stopAt_39 (by decide) (fun q10 => ?_) (fun q10 => ?_)
    · skip
      exact absurd (show (1 : Int32) ≤ (0 : Int32) from q10) (by decide)
    · skip
      exact k11 q1
theorem rX8_stopAt_50 {l : Launch} {G : jG} {X : jX} {Q : State → Prop} {n hg nc : Nat} {ret : Option FieldType} {mu : jM} {x1 : Int32} {x2 : Int32} (h : jOk l G X cX8_stopAt 3 ret RX8 hg nc)
    (k2 : (mu 58 1) ≤ x2 → J l G X Q 3 69 [.ref 58, .int x1, .int x2] [] mu n)
    (k3 : ¬ (mu 58 1) ≤ x2 → J l G X Q 3 60 [.ref 58, .int x1, .int x2] [.int x2, .ref 58] mu n) :
    J l G X Q 3 50 [.ref 58, .int x1, .int x2] [] mu n := by
  refine J_iload_n h dX8_stopAt_50 rfl rfl ?_
  refine J_aload_n h dX8_stopAt_51 rfl rfl ?_
  refine J_geti (k := 1) h dX8_stopAt_52 jc8 rfl rfl (by decide) w985 ?_
  refine J_icmp_ge (tgt := 69) h dX8_stopAt_55 (by decide) (fun q1 => ?_) (fun q1 => ?_)
  · skip
    exact k2 q1
  · skip
    refine J_aload_n h dX8_stopAt_58 rfl rfl ?_
    refine J_iload_n h dX8_stopAt_59 rfl rfl ?_
    exact k3 q1
theorem rX8_stopAt_60 {l : Launch} {G : jG} {X : jX} {Q : State → Prop} {n hg nc : Nat} {ret : Option FieldType} {mu : jM} {x1 : Int32} {x2 : Int32} {y0 : Int32} {Qc : jM → Prop} {h' : Nat} (h : jOk l G X cX8_stopAt 3 ret RX8 hg nc) (hM : jCv l G yX8_act cX8_act 4 h' (.ref 58 :: [.int y0]) mu Qc) (hh : h' < hg ∧ 4 ≤ 21) (hn : n ≤ nc)
    (kk : ∀ mu', Qc mu' → J l G X Q 3 63 [.ref 58, .int x1, .int x2] [] mu' n) :
    J l G X Q 3 60 [.ref 58, .int x1, .int x2] [.int y0, .ref 58] mu n :=
  J_callV (As := [.int y0]) (rest := []) h dX8_stopAt_60 hM (jgV w1293 w1295 w58 w84 w1296) rfl (ci := 8) rfl rfl nmX8_act rfl hh (Nat.le_of_ble_eq_true rfl) rfl kk hn
theorem rX8_stopAt_63 {l : Launch} {G : jG} {X : jX} {Q : State → Prop} {n hg nc : Nat} {ret : Option FieldType} {mu : jM} {x1 : Int32} {x2 : Int32} (h : jOk l G X cX8_stopAt 3 ret RX8 hg nc)
    (k1 : J l G X Q 3 50 [.ref 58, .int x1, .int (x2 + 1)] [] mu n) :
    J l G X Q 3 63 [.ref 58, .int x1, .int x2] [] mu n := by
  refine J_iinc h dX8_stopAt_63 rfl (cc_1 _) (by decide) rfl ?_
  show J l G X Q 3 66 [.ref 58, .int x1, .int (x2 + 1)] [] mu n
  refine J_goto (tgt := 50) h dX8_stopAt_66 (by decide) ?_
  exact k1
/-! LockstepNetModel.letters()I -/
theorem rX8_letters_0 {l : Launch} {G : jG} {X : jX} {Q : State → Prop} {n hg nc : Nat} {ret : Option FieldType} {mu : jM} (h : jOk l G X cX8_letters 1 ret RX8 hg nc)
    (k2 : (mu 58 18) = 0 → J l G X Q 1 20 [.ref 58] [.int 0] (wr mu 58 0 0) n)
    (k3 : ¬ (mu 58 18) = 0 → J l G X Q 1 20 [.ref 58] [.int (mu 58 38)] (wr mu 58 0 0) n) :
    J l G X Q 1 0 [.ref 58] [] mu n := by
  refine J_aload_n h dX8_letters_0 rfl rfl ?_
  refine J_iconst h dX8_letters_1 ci_0 ?_
  refine J_puti (k := 0) (ty0 := tyX8) h dX8_letters_2 jc8 tyX8_ok nmX8 rfl rfl (by decide) rfl rfl rfl w984 ?_
  refine J_aload_n h dX8_letters_5 rfl rfl ?_
  refine J_geti (k := 18) h dX8_letters_6 jc8 rfl rfl (by decide) w1002 ?_
  refine J_if_eq (tgt := 19) h dX8_letters_9 (by decide) (fun q1 => ?_) (fun q1 => ?_)
  · skip
    refine J_iconst h dX8_letters_19 ci_0 ?_
    exact k2 q1
  · skip
    refine J_aload_n h dX8_letters_12 rfl rfl ?_
    refine J_geti (k := 38) h dX8_letters_13 jc8 rfl rfl (by decide) w1022 ?_
    refine J_goto (tgt := 20) h dX8_letters_16 (by decide) ?_
    exact k3 q1
/-! LockstepNetModel.letter(II)I -/
theorem rX8_letter_0 {l : Launch} {G : jG} {X : jX} {Q : State → Prop} {n hg nc : Nat} {ret : Option FieldType} {mu : jM} {x1 : Int32} {x2 : Int32} (h : jOk l G X cX8_letter 3 ret RX8 hg nc) (s15 : ¬ (mu 58 18) = 0 → ¬ x1 < 0 → ¬ (mu 58 38) ≤ x1 → ¬ x2 < 0 → x2 ≤ 4 → vp_in ((5 * x1) + x2) 20480)
    (k3 : (mu 58 18) = 0 → J l G X Q 3 58 [.ref 58, .int x1, .int x2] [.int 0] (wr mu 58 0 1) n)
    (k6 : ¬ (mu 58 18) = 0 → x1 < 0 → J l G X Q 3 58 [.ref 58, .int x1, .int x2] [.int 0] (wr mu 58 0 1) n)
    (k9 : ¬ (mu 58 18) = 0 → ¬ x1 < 0 → (mu 58 38) ≤ x1 → J l G X Q 3 58 [.ref 58, .int x1, .int x2] [.int 0] (wr mu 58 0 1) n)
    (k12 : ¬ (mu 58 18) = 0 → ¬ x1 < 0 → ¬ (mu 58 38) ≤ x1 → x2 < 0 → J l G X Q 3 58 [.ref 58, .int x1, .int x2] [.int 0] (wr mu 58 0 1) n)
    (k16 : ¬ (mu 58 18) = 0 → ¬ x1 < 0 → ¬ (mu 58 38) ≤ x1 → ¬ x2 < 0 → x2 ≤ 4 → J l G X Q 3 58 [.ref 58, .int x1, .int x2] [.int (mu 89 (((5 * x1) + x2)).toNatClampNeg)] (wr mu 58 0 0) n)
    (k18 : ¬ (mu 58 18) = 0 → ¬ x1 < 0 → ¬ (mu 58 38) ≤ x1 → ¬ x2 < 0 → ¬ x2 ≤ 4 → J l G X Q 3 58 [.ref 58, .int x1, .int x2] [.int 0] (wr mu 58 0 1) n) :
    J l G X Q 3 0 [.ref 58, .int x1, .int x2] [] mu n := by
  refine J_aload_n h dX8_letter_0 rfl rfl ?_
  refine J_aload_n h dX8_letter_1 rfl rfl ?_
  refine J_geti (k := 18) h dX8_letter_2 jc8 rfl rfl (by decide) w1002 ?_
  refine J_if_eq (tgt := 29) h dX8_letter_5 (by decide) (fun q1 => ?_) (fun q1 => ?_)
  · skip
    refine J_iconst h dX8_letter_29 ci_1 ?_
    refine J_goto (tgt := 34) h dX8_letter_30 (by decide) ?_
    refine J_puti (k := 0) (ty0 := tyX8) h dX8_letter_34 jc8 tyX8_ok nmX8 rfl rfl (by decide) rfl rfl rfl w984 ?_
    refine J_aload_n h dX8_letter_37 rfl rfl ?_
    refine J_geti (k := 0) h dX8_letter_38 jc8 rfl rfl (by decide) w984 ?_
    refine J_if_le (tgt := 48) h dX8_letter_41 (by decide) (fun q2 => ?_) (fun q2 => ?_)
    · skip
      exact absurd (show (1 : Int32) ≤ (0 : Int32) from q2) (by decide)
    · skip
      refine J_iconst h dX8_letter_44 ci_0 ?_
      refine J_goto (tgt := 58) h dX8_letter_45 (by decide) ?_
      exact k3 q1
  · skip
    refine J_iload_n h dX8_letter_8 rfl rfl ?_
    refine J_if_lt (tgt := 29) h dX8_letter_9 (by decide) (fun q4 => ?_) (fun q4 => ?_)
    · skip
      refine J_iconst h dX8_letter_29 ci_1 ?_
      refine J_goto (tgt := 34) h dX8_letter_30 (by decide) ?_
      refine J_puti (k := 0) (ty0 := tyX8) h dX8_letter_34 jc8 tyX8_ok nmX8 rfl rfl (by decide) rfl rfl rfl w984 ?_
      refine J_aload_n h dX8_letter_37 rfl rfl ?_
      refine J_geti (k := 0) h dX8_letter_38 jc8 rfl rfl (by decide) w984 ?_
      refine J_if_le (tgt := 48) h dX8_letter_41 (by decide) (fun q5 => ?_) (fun q5 => ?_)
      · skip
        exact absurd (show (1 : Int32) ≤ (0 : Int32) from q5) (by decide)
      · skip
        refine J_iconst h dX8_letter_44 ci_0 ?_
        refine J_goto (tgt := 58) h dX8_letter_45 (by decide) ?_
        exact k6 q1 q4
    · skip
      refine J_iload_n h dX8_letter_12 rfl rfl ?_
      refine J_aload_n h dX8_letter_13 rfl rfl ?_
      refine J_geti (k := 38) h dX8_letter_14 jc8 rfl rfl (by decide) w1022 ?_
      refine J_icmp_ge (tgt := 29) h dX8_letter_17 (by decide) (fun q7 => ?_) (fun q7 => ?_)
      · skip
        refine J_iconst h dX8_letter_29 ci_1 ?_
        refine J_goto (tgt := 34) h dX8_letter_30 (by decide) ?_
        refine J_puti (k := 0) (ty0 := tyX8) h dX8_letter_34 jc8 tyX8_ok nmX8 rfl rfl (by decide) rfl rfl rfl w984 ?_
        refine J_aload_n h dX8_letter_37 rfl rfl ?_
        refine J_geti (k := 0) h dX8_letter_38 jc8 rfl rfl (by decide) w984 ?_
        refine J_if_le (tgt := 48) h dX8_letter_41 (by decide) (fun q8 => ?_) (fun q8 => ?_)
        · skip
          exact absurd (show (1 : Int32) ≤ (0 : Int32) from q8) (by decide)
        · skip
          refine J_iconst h dX8_letter_44 ci_0 ?_
          refine J_goto (tgt := 58) h dX8_letter_45 (by decide) ?_
          exact k9 q1 q4 q7
      · skip
        refine J_iload_n h dX8_letter_20 rfl rfl ?_
        refine J_if_lt (tgt := 29) h dX8_letter_21 (by decide) (fun q10 => ?_) (fun q10 => ?_)
        · skip
          refine J_iconst h dX8_letter_29 ci_1 ?_
          refine J_goto (tgt := 34) h dX8_letter_30 (by decide) ?_
          refine J_puti (k := 0) (ty0 := tyX8) h dX8_letter_34 jc8 tyX8_ok nmX8 rfl rfl (by decide) rfl rfl rfl w984 ?_
          refine J_aload_n h dX8_letter_37 rfl rfl ?_
          refine J_geti (k := 0) h dX8_letter_38 jc8 rfl rfl (by decide) w984 ?_
          refine J_if_le (tgt := 48) h dX8_letter_41 (by decide) (fun q11 => ?_) (fun q11 => ?_)
          · skip
            exact absurd (show (1 : Int32) ≤ (0 : Int32) from q11) (by decide)
          · skip
            refine J_iconst h dX8_letter_44 ci_0 ?_
            refine J_goto (tgt := 58) h dX8_letter_45 (by decide) ?_
            exact k12 q1 q4 q7 q10
        · skip
          refine J_iload_n h dX8_letter_24 rfl rfl ?_
          refine J_iconst h dX8_letter_25 ci_4 ?_
          refine J_icmp_le (tgt := 33) h dX8_letter_26 (by decide) (fun q13 => ?_) (fun q13 => ?_)
          · skip
            refine J_iconst h dX8_letter_33 ci_0 ?_
            refine J_puti (k := 0) (ty0 := tyX8) h dX8_letter_34 jc8 tyX8_ok nmX8 rfl rfl (by decide) rfl rfl rfl w984 ?_
            refine J_aload_n h dX8_letter_37 rfl rfl ?_
            refine J_geti (k := 0) h dX8_letter_38 jc8 rfl rfl (by decide) w984 ?_
            refine J_if_le (tgt := 48) h dX8_letter_41 (by decide) (fun q14 => ?_) (fun q14 => ?_)
            · skip
              refine J_aload_n h dX8_letter_48 rfl rfl ?_
              refine J_getr (k := 39) h dX8_letter_49 jc8 rfl rfl (by decide) w1023 ?_
              refine J_iconst h dX8_letter_52 ci_5 ?_
              refine J_iload_n h dX8_letter_53 rfl rfl ?_
              refine J_imul h dX8_letter_54 ?_
              refine J_iload_n h dX8_letter_55 rfl rfl ?_
              refine J_iadd h dX8_letter_56 ?_
              refine J_iald h dX8_letter_57 rfl (s15 q1 q4 q7 q10 q13) ?_
              exact k16 q1 q4 q7 q10 q13
            · skip
              exact absurd (show ¬ (0 : Int32) ≤ (0 : Int32) from q14) (by decide)
          · skip
            refine J_iconst h dX8_letter_29 ci_1 ?_
            refine J_goto (tgt := 34) h dX8_letter_30 (by decide) ?_
            refine J_puti (k := 0) (ty0 := tyX8) h dX8_letter_34 jc8 tyX8_ok nmX8 rfl rfl (by decide) rfl rfl rfl w984 ?_
            refine J_aload_n h dX8_letter_37 rfl rfl ?_
            refine J_geti (k := 0) h dX8_letter_38 jc8 rfl rfl (by decide) w984 ?_
            refine J_if_le (tgt := 48) h dX8_letter_41 (by decide) (fun q17 => ?_) (fun q17 => ?_)
            · skip
              exact absurd (show (1 : Int32) ≤ (0 : Int32) from q17) (by decide)
            · skip
              refine J_iconst h dX8_letter_44 ci_0 ?_
              refine J_goto (tgt := 58) h dX8_letter_45 (by decide) ?_
              exact k18 q1 q4 q7 q10 q13
/-! LockstepNetModel.bring(I)I -/
theorem rX8_bring_0 {l : Launch} {G : jG} {X : jX} {Q : State → Prop} {n hg nc : Nat} {ret : Option FieldType} {mu : jM} {x1 : Int32} (h : jOk l G X cX8_bring 8 ret RX8 hg nc) (s1 : vp_in (5 * x1) 20480) (s2 : vp_in ((5 * x1) + 1) 20480) (s3 : vp_in ((5 * x1) + 2) 20480) (s4 : vp_in ((5 * x1) + 3) 20480) (s5 : vp_in ((5 * x1) + 4) 20480)
    (k6 : J l G X Q 8 71 [.ref 58, .int x1, .int (mu 89 ((5 * x1)).toNatClampNeg), .int (mu 89 (((5 * x1) + 1)).toNatClampNeg), .int (mu 89 (((5 * x1) + 2)).toNatClampNeg), .int (mu 89 (((5 * x1) + 3)).toNatClampNeg), .int (mu 89 (((5 * x1) + 4)).toNatClampNeg), .int (5 * x1)] [] (wr mu 58 38 ((mu 58 38) - 1)) n) :
    J l G X Q 8 0 [.ref 58, .int x1, .float 0, .float 0, .float 0, .float 0, .float 0, .float 0] [] mu n := by
  refine J_aload_n h dX8_bring_0 rfl rfl ?_
  refine J_getr (k := 39) h dX8_bring_1 jc8 rfl rfl (by decide) w1023 ?_
  refine J_iconst h dX8_bring_4 ci_5 ?_
  refine J_iload_n h dX8_bring_5 rfl rfl ?_
  refine J_imul h dX8_bring_6 ?_
  refine J_iald h dX8_bring_7 rfl (s1) ?_
  refine J_istore_n h dX8_bring_8 rfl (by decide) rfl ?_
  show J l G X Q 8 9 [.ref 58, .int x1, .int (mu 89 ((5 * x1)).toNatClampNeg), .float 0, .float 0, .float 0, .float 0, .float 0] [] mu n
  refine J_aload_n h dX8_bring_9 rfl rfl ?_
  refine J_getr (k := 39) h dX8_bring_10 jc8 rfl rfl (by decide) w1023 ?_
  refine J_iconst h dX8_bring_13 ci_5 ?_
  refine J_iload_n h dX8_bring_14 rfl rfl ?_
  refine J_imul h dX8_bring_15 ?_
  refine J_iconst h dX8_bring_16 ci_1 ?_
  refine J_iadd h dX8_bring_17 ?_
  refine J_iald h dX8_bring_18 rfl (s2) ?_
  refine J_istore_n h dX8_bring_19 rfl (by decide) rfl ?_
  show J l G X Q 8 20 [.ref 58, .int x1, .int (mu 89 ((5 * x1)).toNatClampNeg), .int (mu 89 (((5 * x1) + 1)).toNatClampNeg), .float 0, .float 0, .float 0, .float 0] [] mu n
  refine J_aload_n h dX8_bring_20 rfl rfl ?_
  refine J_getr (k := 39) h dX8_bring_21 jc8 rfl rfl (by decide) w1023 ?_
  refine J_iconst h dX8_bring_24 ci_5 ?_
  refine J_iload_n h dX8_bring_25 rfl rfl ?_
  refine J_imul h dX8_bring_26 ?_
  refine J_iconst h dX8_bring_27 ci_2 ?_
  refine J_iadd h dX8_bring_28 ?_
  refine J_iald h dX8_bring_29 rfl (s3) ?_
  refine J_istore h dX8_bring_30 (by decide) rfl ?_
  show J l G X Q 8 32 [.ref 58, .int x1, .int (mu 89 ((5 * x1)).toNatClampNeg), .int (mu 89 (((5 * x1) + 1)).toNatClampNeg), .int (mu 89 (((5 * x1) + 2)).toNatClampNeg), .float 0, .float 0, .float 0] [] mu n
  refine J_aload_n h dX8_bring_32 rfl rfl ?_
  refine J_getr (k := 39) h dX8_bring_33 jc8 rfl rfl (by decide) w1023 ?_
  refine J_iconst h dX8_bring_36 ci_5 ?_
  refine J_iload_n h dX8_bring_37 rfl rfl ?_
  refine J_imul h dX8_bring_38 ?_
  refine J_iconst h dX8_bring_39 ci_3 ?_
  refine J_iadd h dX8_bring_40 ?_
  refine J_iald h dX8_bring_41 rfl (s4) ?_
  refine J_istore h dX8_bring_42 (by decide) rfl ?_
  show J l G X Q 8 44 [.ref 58, .int x1, .int (mu 89 ((5 * x1)).toNatClampNeg), .int (mu 89 (((5 * x1) + 1)).toNatClampNeg), .int (mu 89 (((5 * x1) + 2)).toNatClampNeg), .int (mu 89 (((5 * x1) + 3)).toNatClampNeg), .float 0, .float 0] [] mu n
  refine J_aload_n h dX8_bring_44 rfl rfl ?_
  refine J_getr (k := 39) h dX8_bring_45 jc8 rfl rfl (by decide) w1023 ?_
  refine J_iconst h dX8_bring_48 ci_5 ?_
  refine J_iload_n h dX8_bring_49 rfl rfl ?_
  refine J_imul h dX8_bring_50 ?_
  refine J_iconst h dX8_bring_51 ci_4 ?_
  refine J_iadd h dX8_bring_52 ?_
  refine J_iald h dX8_bring_53 rfl (s5) ?_
  refine J_istore h dX8_bring_54 (by decide) rfl ?_
  show J l G X Q 8 56 [.ref 58, .int x1, .int (mu 89 ((5 * x1)).toNatClampNeg), .int (mu 89 (((5 * x1) + 1)).toNatClampNeg), .int (mu 89 (((5 * x1) + 2)).toNatClampNeg), .int (mu 89 (((5 * x1) + 3)).toNatClampNeg), .int (mu 89 (((5 * x1) + 4)).toNatClampNeg), .float 0] [] mu n
  refine J_aload_n h dX8_bring_56 rfl rfl ?_
  refine J_dup h dX8_bring_57 rfl ?_
  refine J_geti (k := 38) h dX8_bring_58 jc8 rfl rfl (by decide) w1022 ?_
  refine J_iconst h dX8_bring_61 ci_1 ?_
  refine J_isub h dX8_bring_62 ?_
  refine J_puti (k := 38) (ty0 := tyX8) h dX8_bring_63 jc8 tyX8_ok nmX8 rfl rfl (by decide) rfl rfl rfl w1022 ?_
  refine J_iconst h dX8_bring_66 ci_5 ?_
  refine J_iload_n h dX8_bring_67 rfl rfl ?_
  refine J_imul h dX8_bring_68 ?_
  refine J_istore h dX8_bring_69 (by decide) rfl ?_
  show J l G X Q 8 71 [.ref 58, .int x1, .int (mu 89 ((5 * x1)).toNatClampNeg), .int (mu 89 (((5 * x1) + 1)).toNatClampNeg), .int (mu 89 (((5 * x1) + 2)).toNatClampNeg), .int (mu 89 (((5 * x1) + 3)).toNatClampNeg), .int (mu 89 (((5 * x1) + 4)).toNatClampNeg), .int (5 * x1)] [] (wr mu 58 38 ((mu 58 38) - 1)) n
  exact k6
theorem rX8_bring_71 {l : Launch} {G : jG} {X : jX} {Q : State → Prop} {n hg nc : Nat} {ret : Option FieldType} {mu : jM} {x1 : Int32} {x2 : Int32} {x3 : Int32} {x4 : Int32} {x5 : Int32} {x6 : Int32} {x7 : Int32} (h : jOk l G X cX8_bring 8 ret RX8 hg nc) (s5 : (5 * (mu 58 38)) ≤ x7 → ¬ x2 = 0 → x2 = 1 → vp_in x4 24) (s6 : (5 * (mu 58 38)) ≤ x7 → ¬ x2 = 0 → x2 = 1 → vp_in x4 24) (s9 : ¬ (5 * (mu 58 38)) ≤ x7 → vp_in (x7 + 5) 20480) (s10 : ¬ (5 * (mu 58 38)) ≤ x7 → vp_in x7 20480)
    (k4 : (5 * (mu 58 38)) ≤ x7 → ¬ x2 = 0 → ¬ x2 = 1 → J l G X Q 8 186 [.ref 58, .int x1, .int x2, .int x3, .int x4, .int x5, .int x6, .int x7] [.int x5, .int x2, .int x4] mu n)
    (k7 : (5 * (mu 58 38)) ≤ x7 → ¬ x2 = 0 → x2 = 1 → J l G X Q 8 207 [.ref 58, .int x1, .int x2, .int x3, .int x4, .int x5, .int x6, .int x7] [] (wr mu 77 (x4).toNatClampNeg ((mu 77 (x4).toNatClampNeg) - 1)) n)
    (k8 : (5 * (mu 58 38)) ≤ x7 → x2 = 0 → J l G X Q 8 120 [.ref 58, .int x1, .int x2, .int x3, .int x4, .int x5, .int x6, .int x7] [.int x4, .int x3, .ref 58, .ref 58, .int (120 * (x5 - (x5 / 2) * 2))] mu n)
    (k11 : ¬ (5 * (mu 58 38)) ≤ x7 → J l G X Q 8 71 [.ref 58, .int x1, .int x2, .int x3, .int x4, .int x5, .int x6, .int (x7 + 1)] [] (wr mu 89 (x7).toNatClampNeg (mu 89 ((x7 + 5)).toNatClampNeg)) n) :
    J l G X Q 8 71 [.ref 58, .int x1, .int x2, .int x3, .int x4, .int x5, .int x6, .int x7] [] mu n := by
  refine J_iload h dX8_bring_71 rfl ?_
  refine J_iconst h dX8_bring_73 ci_5 ?_
  refine J_aload_n h dX8_bring_74 rfl rfl ?_
  refine J_geti (k := 38) h dX8_bring_75 jc8 rfl rfl (by decide) w1022 ?_
  refine J_imul h dX8_bring_78 ?_
  refine J_icmp_ge (tgt := 104) h dX8_bring_79 (by decide) (fun q1 => ?_) (fun q1 => ?_)
  · skip
    refine J_iload_n h dX8_bring_104 rfl rfl ?_
    refine J_if_ne (tgt := 162) h dX8_bring_105 (by decide) (fun q2 => ?_) (fun q2 => ?_)
    · skip
      refine J_iload_n h dX8_bring_162 rfl rfl ?_
      refine J_iconst h dX8_bring_163 ci_1 ?_
      refine J_icmp_ne (tgt := 181) h dX8_bring_164 (by decide) (fun q3 => ?_) (fun q3 => ?_)
      · skip
        refine J_iload h dX8_bring_181 rfl ?_
        refine J_iload_n h dX8_bring_183 rfl rfl ?_
        refine J_iload h dX8_bring_184 rfl ?_
        exact k4 q1 q2 q3
      · skip
        refine J_aload_n h dX8_bring_167 rfl rfl ?_
        refine J_getr (k := 25) h dX8_bring_168 jc8 rfl rfl (by decide) w1009 ?_
        refine J_iload h dX8_bring_171 rfl ?_
        refine J_dup2 h dX8_bring_173 rfl rfl ?_
        refine J_iald h dX8_bring_174 rfl (s5 q1 q2 q3) ?_
        refine J_iconst h dX8_bring_175 ci_1 ?_
        refine J_isub h dX8_bring_176 ?_
        refine J_iast h dX8_bring_177 rfl (s6 q1 q2 q3) ?_
        refine J_goto (tgt := 207) h dX8_bring_178 (by decide) ?_
        exact k7 q1 q2 q3
    · skip
      refine J_bipush h dX8_bring_108 cb_120 ?_
      refine J_iload h dX8_bring_110 rfl ?_
      refine J_iconst h dX8_bring_112 ci_2 ?_
      refine J_irem h dX8_bring_113 (by decide) ?_
      refine J_imul h dX8_bring_114 ?_
      refine J_aload_n h dX8_bring_115 rfl rfl ?_
      refine J_aload_n h dX8_bring_116 rfl rfl ?_
      refine J_iload_n h dX8_bring_117 rfl rfl ?_
      refine J_iload h dX8_bring_118 rfl ?_
      exact k8 q1 q2
  · skip
    refine J_aload_n h dX8_bring_82 rfl rfl ?_
    refine J_getr (k := 39) h dX8_bring_83 jc8 rfl rfl (by decide) w1023 ?_
    refine J_iload h dX8_bring_86 rfl ?_
    refine J_aload_n h dX8_bring_88 rfl rfl ?_
    refine J_getr (k := 39) h dX8_bring_89 jc8 rfl rfl (by decide) w1023 ?_
    refine J_iload h dX8_bring_92 rfl ?_
    refine J_iconst h dX8_bring_94 ci_5 ?_
    refine J_iadd h dX8_bring_95 ?_
    refine J_iald h dX8_bring_96 rfl (s9 q1) ?_
    refine J_iast h dX8_bring_97 rfl (s10 q1) ?_
    refine J_iinc h dX8_bring_98 rfl (cc_1 _) (by decide) rfl ?_
    show J l G X Q 8 101 [.ref 58, .int x1, .int x2, .int x3, .int x4, .int x5, .int x6, .int (x7 + 1)] [] (wr mu 89 (x7).toNatClampNeg (mu 89 ((x7 + 5)).toNatClampNeg)) n
    refine J_goto (tgt := 71) h dX8_bring_101 (by decide) ?_
    exact k11 q1
theorem rX8_bring_186 {l : Launch} {G : jG} {X : jX} {Q : State → Prop} {n hg nc : Nat} {ret : Option FieldType} {mu : jM} {x1 : Int32} {x2 : Int32} {x3 : Int32} {x4 : Int32} {x5 : Int32} {x6 : Int32} {x7 : Int32} {y0 : Int32} {y1 : Int32} {y2 : Int32} {Qc : Int32 → jM → Prop} {h' : Nat} (h : jOk l G X cX8_bring 8 ret RX8 hg nc) (hM : jCi l G yX8_spot cX8_spot 3 h' (some .int) [.int y2, .int y1, .int y0] mu Qc) (hh : h' < hg ∧ 3 ≤ 21) (hn : n ≤ nc)
    (kk : ∀ v mu', Qc v mu' → J l G X Q 8 189 [.ref 58, .int x1, .int x2, .int x3, .int x4, .int x5, .int x6, .int x7] (.int v :: []) mu' n) :
    J l G X Q 8 186 [.ref 58, .int x1, .int x2, .int x3, .int x4, .int x5, .int x6, .int x7] [.int y0, .int y1, .int y2] mu n :=
  J_callSi (As := [.int y2, .int y1, .int y0]) (rest := []) h dX8_bring_186 hM (jgS w1321 w1322 w84 w1323) nmX8_spot rfl hh (Nat.le_of_ble_eq_true rfl) rfl kk hn
theorem rX8_bring_207 {l : Launch} {G : jG} {X : jX} {Q : State → Prop} {n hg nc : Nat} {ret : Option FieldType} {mu : jM} {x1 : Int32} {x2 : Int32} {x3 : Int32} {x4 : Int32} {x5 : Int32} {x6 : Int32} {x7 : Int32} (h : jOk l G X cX8_bring 8 ret RX8 hg nc)
    (k1 : J l G X Q 8 210 [.ref 58, .int x1, .int x2, .int x3, .int x4, .int x5, .int x6, .int x7] [.int x4, .ref 58] mu n) :
    J l G X Q 8 207 [.ref 58, .int x1, .int x2, .int x3, .int x4, .int x5, .int x6, .int x7] [] mu n := by
  refine J_aload_n h dX8_bring_207 rfl rfl ?_
  refine J_iload h dX8_bring_208 rfl ?_
  exact k1
theorem rX8_bring_120 {l : Launch} {G : jG} {X : jX} {Q : State → Prop} {n hg nc : Nat} {ret : Option FieldType} {mu : jM} {x1 : Int32} {x2 : Int32} {x3 : Int32} {x4 : Int32} {x5 : Int32} {x6 : Int32} {x7 : Int32} {y0 : Int32} {y1 : Int32} {y4 : Int32} {Qc : Int32 → jM → Prop} {h' : Nat} (h : jOk l G X cX8_bring 8 ret RX8 hg nc) (hM : jCi l G yX8_linkOf cX8_linkOf 5 h' (some .int) (.ref 58 :: [.int y1, .int y0]) mu Qc) (hh : h' < hg ∧ 5 ≤ 21) (hn : n ≤ nc)
    (kk : ∀ v mu', Qc v mu' → J l G X Q 8 123 [.ref 58, .int x1, .int x2, .int x3, .int x4, .int x5, .int x6, .int x7] (.int v :: [.ref 58, .int y4]) mu' n) :
    J l G X Q 8 120 [.ref 58, .int x1, .int x2, .int x3, .int x4, .int x5, .int x6, .int x7] [.int y0, .int y1, .ref 58, .ref 58, .int y4] mu n :=
  J_callVi (As := [.int y1, .int y0]) (rest := [.ref 58, .int y4]) h dX8_bring_120 hM (jgV w1134 w1136 w32 w84 w1137) rfl (ci := 8) rfl rfl nmX8_linkOf rfl hh (Nat.le_of_ble_eq_true rfl) rfl kk hn
theorem rX8_bring_189 {l : Launch} {G : jG} {X : jX} {Q : State → Prop} {n hg nc : Nat} {ret : Option FieldType} {mu : jM} {x1 : Int32} {x2 : Int32} {x3 : Int32} {x4 : Int32} {x5 : Int32} {x6 : Int32} {x7 : Int32} {y0 : Int32} (h : jOk l G X cX8_bring 8 ret RX8 hg nc) (s1 : vp_in y0 384) (s2 : vp_in y0 384)
    (k3 : J l G X Q 8 207 [.ref 58, .int x1, .int x2, .int x3, .int x4, .int x5, .int x6, .int y0] [] (wr mu 81 (y0).toNatClampNeg ((mu 81 (y0).toNatClampNeg) + 1)) n) :
    J l G X Q 8 189 [.ref 58, .int x1, .int x2, .int x3, .int x4, .int x5, .int x6, .int x7] [.int y0] mu n := by
  refine J_istore h dX8_bring_189 (by decide) rfl ?_
  show J l G X Q 8 191 [.ref 58, .int x1, .int x2, .int x3, .int x4, .int x5, .int x6, .int y0] [] mu n
  refine J_aload_n h dX8_bring_191 rfl rfl ?_
  refine J_getr (k := 29) h dX8_bring_192 jc8 rfl rfl (by decide) w1013 ?_
  refine J_iload h dX8_bring_195 rfl ?_
  refine J_aload_n h dX8_bring_197 rfl rfl ?_
  refine J_getr (k := 29) h dX8_bring_198 jc8 rfl rfl (by decide) w1013 ?_
  refine J_iload h dX8_bring_201 rfl ?_
  refine J_iald h dX8_bring_203 rfl (s1) ?_
  refine J_iconst h dX8_bring_204 ci_1 ?_
  refine J_iadd h dX8_bring_205 ?_
  refine J_iast h dX8_bring_206 rfl (s2) ?_
  exact k3
theorem rX8_bring_210 {l : Launch} {G : jG} {X : jX} {Q : State → Prop} {n hg nc : Nat} {ret : Option FieldType} {mu : jM} {x1 : Int32} {x2 : Int32} {x3 : Int32} {x4 : Int32} {x5 : Int32} {x6 : Int32} {x7 : Int32} {y0 : Int32} {Qc : jM → Prop} {h' : Nat} (h : jOk l G X cX8_bring 8 ret RX8 hg nc) (hM : jCv l G yX8_act cX8_act 4 h' (.ref 58 :: [.int y0]) mu Qc) (hh : h' < hg ∧ 4 ≤ 21) (hn : n ≤ nc)
    (kk : ∀ mu', Qc mu' → J l G X Q 8 213 [.ref 58, .int x1, .int x2, .int x3, .int x4, .int x5, .int x6, .int x7] [] mu' n) :
    J l G X Q 8 210 [.ref 58, .int x1, .int x2, .int x3, .int x4, .int x5, .int x6, .int x7] [.int y0, .ref 58] mu n :=
  J_callV (As := [.int y0]) (rest := []) h dX8_bring_210 hM (jgV w1293 w1295 w58 w84 w1296) rfl (ci := 8) rfl rfl nmX8_act rfl hh (Nat.le_of_ble_eq_true rfl) rfl kk hn
theorem rX8_bring_123 {l : Launch} {G : jG} {X : jX} {Q : State → Prop} {n hg nc : Nat} {ret : Option FieldType} {mu : jM} {x1 : Int32} {x2 : Int32} {x3 : Int32} {x4 : Int32} {x5 : Int32} {x6 : Int32} {x7 : Int32} {y0 : Int32} {y2 : Int32} (h : jOk l G X cX8_bring 8 ret RX8 hg nc)
    (k1 : J l G X Q 8 125 [.ref 58, .int x1, .int x2, .int x3, .int x4, .int x5, .int x6, .int x7] [.int x4, .int y0, .ref 58, .int y2] mu n) :
    J l G X Q 8 123 [.ref 58, .int x1, .int x2, .int x3, .int x4, .int x5, .int x6, .int x7] [.int y0, .ref 58, .int y2] mu n := by
  refine J_iload h dX8_bring_123 rfl ?_
  exact k1
theorem rX8_bring_213 {l : Launch} {G : jG} {X : jX} {Q : State → Prop} {n hg nc : Nat} {ret : Option FieldType} {mu : jM} {x1 : Int32} {x2 : Int32} {x3 : Int32} {x4 : Int32} {x5 : Int32} {x6 : Int32} {x7 : Int32} (h : jOk l G X cX8_bring 8 ret RX8 hg nc)
    (k1 : J l G X Q 8 214 [.ref 58, .int x1, .int x2, .int x3, .int x4, .int x5, .int x6, .int x7] [.int x2] mu n) :
    J l G X Q 8 213 [.ref 58, .int x1, .int x2, .int x3, .int x4, .int x5, .int x6, .int x7] [] mu n := by
  refine J_iload_n h dX8_bring_213 rfl rfl ?_
  exact k1
theorem rX8_bring_125 {l : Launch} {G : jG} {X : jX} {Q : State → Prop} {n hg nc : Nat} {ret : Option FieldType} {mu : jM} {x1 : Int32} {x2 : Int32} {x3 : Int32} {x4 : Int32} {x5 : Int32} {x6 : Int32} {x7 : Int32} {y0 : Int32} {y1 : Int32} {y3 : Int32} {Qc : Int32 → jM → Prop} {h' : Nat} (h : jOk l G X cX8_bring 8 ret RX8 hg nc) (hM : jCi l G yX8_towards cX8_towards 3 h' (some .int) (.ref 58 :: [.int y1, .int y0]) mu Qc) (hh : h' < hg ∧ 3 ≤ 21) (hn : n ≤ nc)
    (kk : ∀ v mu', Qc v mu' → J l G X Q 8 128 [.ref 58, .int x1, .int x2, .int x3, .int x4, .int x5, .int x6, .int x7] (.int v :: [.int y3]) mu' n) :
    J l G X Q 8 125 [.ref 58, .int x1, .int x2, .int x3, .int x4, .int x5, .int x6, .int x7] [.int y0, .int y1, .ref 58, .int y3] mu n :=
  J_callVi (As := [.int y1, .int y0]) (rest := [.int y3]) h dX8_bring_125 hM (jgV w1223 w1225 w46 w84 w1226) rfl (ci := 8) rfl rfl nmX8_towards rfl hh (Nat.le_of_ble_eq_true rfl) rfl kk hn
theorem rX8_bring_128 {l : Launch} {G : jG} {X : jX} {Q : State → Prop} {n hg nc : Nat} {ret : Option FieldType} {mu : jM} {x1 : Int32} {x2 : Int32} {x3 : Int32} {x4 : Int32} {x5 : Int32} {x6 : Int32} {x7 : Int32} {y0 : Int32} {y1 : Int32} (h : jOk l G X cX8_bring 8 ret RX8 hg nc) (s1 : vp_in (y1 + y0) 240) (s2 : vp_in (y1 + y0) 240)
    (k3 : J l G X Q 8 156 [.ref 58, .int x1, .int x2, .int x3, .int x4, .int x5, .int x6, .int (y1 + y0)] [.int 0, .int x5, .int x3, .int x4, .int 1, .ref 58] (wr (wr mu 71 ((y1 + y0)).toNatClampNeg (vp_nar .boolean 1)) 72 ((y1 + y0)).toNatClampNeg x6) n) :
    J l G X Q 8 128 [.ref 58, .int x1, .int x2, .int x3, .int x4, .int x5, .int x6, .int x7] [.int y0, .int y1] mu n := by
  refine J_iadd h dX8_bring_128 ?_
  refine J_istore h dX8_bring_129 (by decide) rfl ?_
  show J l G X Q 8 131 [.ref 58, .int x1, .int x2, .int x3, .int x4, .int x5, .int x6, .int (y1 + y0)] [] mu n
  refine J_aload_n h dX8_bring_131 rfl rfl ?_
  refine J_getr (k := 16) h dX8_bring_132 jc8 rfl rfl (by decide) w1000 ?_
  refine J_iload h dX8_bring_135 rfl ?_
  refine J_iconst h dX8_bring_137 ci_1 ?_
  refine J_zast h dX8_bring_138 rfl (s1) ?_
  refine J_aload_n h dX8_bring_139 rfl rfl ?_
  refine J_getr (k := 17) h dX8_bring_140 jc8 rfl rfl (by decide) w1001 ?_
  refine J_iload h dX8_bring_143 rfl ?_
  refine J_iload h dX8_bring_145 rfl ?_
  refine J_iast h dX8_bring_147 rfl (s2) ?_
  refine J_aload_n h dX8_bring_148 rfl rfl ?_
  refine J_iconst h dX8_bring_149 ci_1 ?_
  refine J_iload h dX8_bring_150 rfl ?_
  refine J_iload_n h dX8_bring_152 rfl rfl ?_
  refine J_iload h dX8_bring_153 rfl ?_
  refine J_iconst h dX8_bring_155 ci_0 ?_
  exact k3
theorem rX8_bring_156 {l : Launch} {G : jG} {X : jX} {Q : State → Prop} {n hg nc : Nat} {ret : Option FieldType} {mu : jM} {x1 : Int32} {x2 : Int32} {x3 : Int32} {x4 : Int32} {x5 : Int32} {x6 : Int32} {x7 : Int32} {y0 : Int32} {y1 : Int32} {y2 : Int32} {y3 : Int32} {y4 : Int32} {Qc : jM → Prop} {h' : Nat} (h : jOk l G X cX8_bring 8 ret RX8 hg nc) (hM : jCv l G yX8_send cX8_send 7 h' (.ref 58 :: [.int y4, .int y3, .int y2, .int y1, .int y0]) mu Qc) (hh : h' < hg ∧ 7 ≤ 21) (hn : n ≤ nc)
    (kk : ∀ mu', Qc mu' → J l G X Q 8 159 [.ref 58, .int x1, .int x2, .int x3, .int x4, .int x5, .int x6, .int x7] [] mu' n) :
    J l G X Q 8 156 [.ref 58, .int x1, .int x2, .int x3, .int x4, .int x5, .int x6, .int x7] [.int y0, .int y1, .int y2, .int y3, .int y4, .ref 58] mu n :=
  J_callV (As := [.int y4, .int y3, .int y2, .int y1, .int y0]) (rest := []) h dX8_bring_156 hM (jgV w1313 w1315 w63 w84 w1316) rfl (ci := 8) rfl rfl nmX8_send rfl hh (Nat.le_of_ble_eq_true rfl) rfl kk hn
theorem rX8_bring_159 {l : Launch} {G : jG} {X : jX} {Q : State → Prop} {n hg nc : Nat} {ret : Option FieldType} {mu : jM} {x1 : Int32} {x2 : Int32} {x3 : Int32} {x4 : Int32} {x5 : Int32} {x6 : Int32} {x7 : Int32} (h : jOk l G X cX8_bring 8 ret RX8 hg nc)
    (k1 : J l G X Q 8 207 [.ref 58, .int x1, .int x2, .int x3, .int x4, .int x5, .int x6, .int x7] [] mu n) :
    J l G X Q 8 159 [.ref 58, .int x1, .int x2, .int x3, .int x4, .int x5, .int x6, .int x7] [] mu n := by
  refine J_goto (tgt := 207) h dX8_bring_159 (by decide) ?_
  exact k1
/-! LockstepNetModel.deliver(I)I -/
theorem rX8_deliver_0 {l : Launch} {G : jG} {X : jX} {Q : State → Prop} {n hg nc : Nat} {ret : Option FieldType} {mu : jM} {x1 : Int32} (h : jOk l G X cX8_deliver 2 ret RX8 hg nc)
    (k3 : (mu 58 18) = 0 → J l G X Q 2 44 [.ref 58, .int x1] [.int 0] (wr mu 58 0 1) n)
    (k6 : ¬ (mu 58 18) = 0 → x1 < 0 → J l G X Q 2 44 [.ref 58, .int x1] [.int 0] (wr mu 58 0 1) n)
    (k9 : ¬ (mu 58 18) = 0 → ¬ x1 < 0 → x1 < (mu 58 38) → J l G X Q 2 41 [.ref 58, .int x1] [.int x1, .ref 58] (wr mu 58 0 0) n)
    (k11 : ¬ (mu 58 18) = 0 → ¬ x1 < 0 → ¬ x1 < (mu 58 38) → J l G X Q 2 44 [.ref 58, .int x1] [.int 0] (wr mu 58 0 1) n) :
    J l G X Q 2 0 [.ref 58, .int x1] [] mu n := by
  refine J_aload_n h dX8_deliver_0 rfl rfl ?_
  refine J_aload_n h dX8_deliver_1 rfl rfl ?_
  refine J_geti (k := 18) h dX8_deliver_2 jc8 rfl rfl (by decide) w1002 ?_
  refine J_if_eq (tgt := 20) h dX8_deliver_5 (by decide) (fun q1 => ?_) (fun q1 => ?_)
  · skip
    refine J_iconst h dX8_deliver_20 ci_1 ?_
    refine J_goto (tgt := 25) h dX8_deliver_21 (by decide) ?_
    refine J_puti (k := 0) (ty0 := tyX8) h dX8_deliver_25 jc8 tyX8_ok nmX8 rfl rfl (by decide) rfl rfl rfl w984 ?_
    refine J_aload_n h dX8_deliver_28 rfl rfl ?_
    refine J_geti (k := 0) h dX8_deliver_29 jc8 rfl rfl (by decide) w984 ?_
    refine J_if_le (tgt := 39) h dX8_deliver_32 (by decide) (fun q2 => ?_) (fun q2 => ?_)
    · skip
      exact absurd (show (1 : Int32) ≤ (0 : Int32) from q2) (by decide)
    · skip
      refine J_iconst h dX8_deliver_35 ci_0 ?_
      refine J_goto (tgt := 44) h dX8_deliver_36 (by decide) ?_
      exact k3 q1
  · skip
    refine J_iload_n h dX8_deliver_8 rfl rfl ?_
    refine J_if_lt (tgt := 20) h dX8_deliver_9 (by decide) (fun q4 => ?_) (fun q4 => ?_)
    · skip
      refine J_iconst h dX8_deliver_20 ci_1 ?_
      refine J_goto (tgt := 25) h dX8_deliver_21 (by decide) ?_
      refine J_puti (k := 0) (ty0 := tyX8) h dX8_deliver_25 jc8 tyX8_ok nmX8 rfl rfl (by decide) rfl rfl rfl w984 ?_
      refine J_aload_n h dX8_deliver_28 rfl rfl ?_
      refine J_geti (k := 0) h dX8_deliver_29 jc8 rfl rfl (by decide) w984 ?_
      refine J_if_le (tgt := 39) h dX8_deliver_32 (by decide) (fun q5 => ?_) (fun q5 => ?_)
      · skip
        exact absurd (show (1 : Int32) ≤ (0 : Int32) from q5) (by decide)
      · skip
        refine J_iconst h dX8_deliver_35 ci_0 ?_
        refine J_goto (tgt := 44) h dX8_deliver_36 (by decide) ?_
        exact k6 q1 q4
    · skip
      refine J_iload_n h dX8_deliver_12 rfl rfl ?_
      refine J_aload_n h dX8_deliver_13 rfl rfl ?_
      refine J_geti (k := 38) h dX8_deliver_14 jc8 rfl rfl (by decide) w1022 ?_
      refine J_icmp_lt (tgt := 24) h dX8_deliver_17 (by decide) (fun q7 => ?_) (fun q7 => ?_)
      · skip
        refine J_iconst h dX8_deliver_24 ci_0 ?_
        refine J_puti (k := 0) (ty0 := tyX8) h dX8_deliver_25 jc8 tyX8_ok nmX8 rfl rfl (by decide) rfl rfl rfl w984 ?_
        refine J_aload_n h dX8_deliver_28 rfl rfl ?_
        refine J_geti (k := 0) h dX8_deliver_29 jc8 rfl rfl (by decide) w984 ?_
        refine J_if_le (tgt := 39) h dX8_deliver_32 (by decide) (fun q8 => ?_) (fun q8 => ?_)
        · skip
          refine J_aload_n h dX8_deliver_39 rfl rfl ?_
          refine J_iload_n h dX8_deliver_40 rfl rfl ?_
          exact k9 q1 q4 q7
        · skip
          exact absurd (show ¬ (0 : Int32) ≤ (0 : Int32) from q8) (by decide)
      · skip
        refine J_iconst h dX8_deliver_20 ci_1 ?_
        refine J_goto (tgt := 25) h dX8_deliver_21 (by decide) ?_
        refine J_puti (k := 0) (ty0 := tyX8) h dX8_deliver_25 jc8 tyX8_ok nmX8 rfl rfl (by decide) rfl rfl rfl w984 ?_
        refine J_aload_n h dX8_deliver_28 rfl rfl ?_
        refine J_geti (k := 0) h dX8_deliver_29 jc8 rfl rfl (by decide) w984 ?_
        refine J_if_le (tgt := 39) h dX8_deliver_32 (by decide) (fun q10 => ?_) (fun q10 => ?_)
        · skip
          exact absurd (show (1 : Int32) ≤ (0 : Int32) from q10) (by decide)
        · skip
          refine J_iconst h dX8_deliver_35 ci_0 ?_
          refine J_goto (tgt := 44) h dX8_deliver_36 (by decide) ?_
          exact k11 q1 q4 q7
theorem rX8_deliver_41 {l : Launch} {G : jG} {X : jX} {Q : State → Prop} {n hg nc : Nat} {ret : Option FieldType} {mu : jM} {x1 : Int32} {y0 : Int32} {Qc : Int32 → jM → Prop} {h' : Nat} (h : jOk l G X cX8_deliver 2 ret RX8 hg nc) (hM : jCi l G yX8_bring cX8_bring 8 h' (some .int) (.ref 58 :: [.int y0]) mu Qc) (hh : h' < hg ∧ 8 ≤ 21) (hn : n ≤ nc)
    (kk : ∀ v mu', Qc v mu' → J l G X Q 2 44 [.ref 58, .int x1] (.int v :: []) mu' n) :
    J l G X Q 2 41 [.ref 58, .int x1] [.int y0, .ref 58] mu n :=
  J_callVi (As := [.int y0]) (rest := []) h dX8_deliver_41 hM (jgV w1372 w1374 w74 w84 w1375) rfl (ci := 8) rfl rfl nmX8_bring rfl hh (Nat.le_of_ble_eq_true rfl) rfl kk hn
/-! LockstepNetModel.deliverAll(III)I -/
theorem rX8_deliverAll_0 {l : Launch} {G : jG} {X : jX} {Q : State → Prop} {n hg nc : Nat} {ret : Option FieldType} {mu : jM} {x1 : Int32} {x2 : Int32} {x3 : Int32} (h : jOk l G X cX8_deliverAll 7 ret RX8 hg nc)
    (k2 : x1 < 0 → J l G X Q 7 46 [.ref 58, .int x1, .int x2, .int x3, .int x2, .int 0, .float 0] [] (wr mu 58 0 1) n)
    (k4 : ¬ x1 < 0 → 2 < x1 → J l G X Q 7 46 [.ref 58, .int x1, .int x2, .int x3, .int x2, .int 0, .float 0] [] (wr mu 58 0 1) n)
    (k6 : ¬ x1 < 0 → ¬ 2 < x1 → x3 < 0 → J l G X Q 7 46 [.ref 58, .int x1, .int x2, .int x3, .int x2, .int 0, .float 0] [] (wr mu 58 0 1) n)
    (k9 : ¬ x1 < 0 → ¬ 2 < x1 → ¬ x3 < 0 → x3 ≤ 2000 → ¬ (mu 58 18) = 0 → J l G X Q 7 46 [.ref 58, .int x1, .int x2, .int x3, .int x2, .int 0, .float 0] [] (wr mu 58 0 0) n)
    (k10 : ¬ x1 < 0 → ¬ 2 < x1 → ¬ x3 < 0 → x3 ≤ 2000 → (mu 58 18) = 0 → J l G X Q 7 46 [.ref 58, .int x1, .int x2, .int x3, .int x2, .int 0, .float 0] [] (wr mu 58 0 2) n)
    (k11 : ¬ x1 < 0 → ¬ 2 < x1 → ¬ x3 < 0 → ¬ x3 ≤ 2000 → J l G X Q 7 46 [.ref 58, .int x1, .int x2, .int x3, .int x2, .int 0, .float 0] [] (wr mu 58 0 1) n) :
    J l G X Q 7 0 [.ref 58, .int x1, .int x2, .int x3, .float 0, .float 0, .float 0] [] mu n := by
  refine J_aload_n h dX8_deliverAll_0 rfl rfl ?_
  refine J_iload_n h dX8_deliverAll_1 rfl rfl ?_
  refine J_if_lt (tgt := 21) h dX8_deliverAll_2 (by decide) (fun q1 => ?_) (fun q1 => ?_)
  · skip
    refine J_iconst h dX8_deliverAll_21 ci_1 ?_
    refine J_goto (tgt := 37) h dX8_deliverAll_22 (by decide) ?_
    refine J_puti (k := 0) (ty0 := tyX8) h dX8_deliverAll_37 jc8 tyX8_ok nmX8 rfl rfl (by decide) rfl rfl rfl w984 ?_
    refine J_iload_n h dX8_deliverAll_40 rfl rfl ?_
    refine J_istore h dX8_deliverAll_41 (by decide) rfl ?_
    show J l G X Q 7 43 [.ref 58, .int x1, .int x2, .int x3, .int x2, .float 0, .float 0] [] (wr mu 58 0 1) n
    refine J_iconst h dX8_deliverAll_43 ci_0 ?_
    refine J_istore h dX8_deliverAll_44 (by decide) rfl ?_
    show J l G X Q 7 46 [.ref 58, .int x1, .int x2, .int x3, .int x2, .int 0, .float 0] [] (wr mu 58 0 1) n
    exact k2 q1
  · skip
    refine J_iload_n h dX8_deliverAll_5 rfl rfl ?_
    refine J_iconst h dX8_deliverAll_6 ci_2 ?_
    refine J_icmp_gt (tgt := 21) h dX8_deliverAll_7 (by decide) (fun q3 => ?_) (fun q3 => ?_)
    · skip
      refine J_iconst h dX8_deliverAll_21 ci_1 ?_
      refine J_goto (tgt := 37) h dX8_deliverAll_22 (by decide) ?_
      refine J_puti (k := 0) (ty0 := tyX8) h dX8_deliverAll_37 jc8 tyX8_ok nmX8 rfl rfl (by decide) rfl rfl rfl w984 ?_
      refine J_iload_n h dX8_deliverAll_40 rfl rfl ?_
      refine J_istore h dX8_deliverAll_41 (by decide) rfl ?_
      show J l G X Q 7 43 [.ref 58, .int x1, .int x2, .int x3, .int x2, .float 0, .float 0] [] (wr mu 58 0 1) n
      refine J_iconst h dX8_deliverAll_43 ci_0 ?_
      refine J_istore h dX8_deliverAll_44 (by decide) rfl ?_
      show J l G X Q 7 46 [.ref 58, .int x1, .int x2, .int x3, .int x2, .int 0, .float 0] [] (wr mu 58 0 1) n
      exact k4 q1 q3
    · skip
      refine J_iload_n h dX8_deliverAll_10 rfl rfl ?_
      refine J_if_lt (tgt := 21) h dX8_deliverAll_11 (by decide) (fun q5 => ?_) (fun q5 => ?_)
      · skip
        refine J_iconst h dX8_deliverAll_21 ci_1 ?_
        refine J_goto (tgt := 37) h dX8_deliverAll_22 (by decide) ?_
        refine J_puti (k := 0) (ty0 := tyX8) h dX8_deliverAll_37 jc8 tyX8_ok nmX8 rfl rfl (by decide) rfl rfl rfl w984 ?_
        refine J_iload_n h dX8_deliverAll_40 rfl rfl ?_
        refine J_istore h dX8_deliverAll_41 (by decide) rfl ?_
        show J l G X Q 7 43 [.ref 58, .int x1, .int x2, .int x3, .int x2, .float 0, .float 0] [] (wr mu 58 0 1) n
        refine J_iconst h dX8_deliverAll_43 ci_0 ?_
        refine J_istore h dX8_deliverAll_44 (by decide) rfl ?_
        show J l G X Q 7 46 [.ref 58, .int x1, .int x2, .int x3, .int x2, .int 0, .float 0] [] (wr mu 58 0 1) n
        exact k6 q1 q3 q5
      · skip
        refine J_iload_n h dX8_deliverAll_14 rfl rfl ?_
        refine J_sipush h dX8_deliverAll_15 cs_2000 ?_
        refine J_icmp_le (tgt := 25) h dX8_deliverAll_18 (by decide) (fun q7 => ?_) (fun q7 => ?_)
        · skip
          refine J_aload_n h dX8_deliverAll_25 rfl rfl ?_
          refine J_geti (k := 18) h dX8_deliverAll_26 jc8 rfl rfl (by decide) w1002 ?_
          refine J_if_ne (tgt := 36) h dX8_deliverAll_29 (by decide) (fun q8 => ?_) (fun q8 => ?_)
          · skip
            refine J_iconst h dX8_deliverAll_36 ci_0 ?_
            refine J_puti (k := 0) (ty0 := tyX8) h dX8_deliverAll_37 jc8 tyX8_ok nmX8 rfl rfl (by decide) rfl rfl rfl w984 ?_
            refine J_iload_n h dX8_deliverAll_40 rfl rfl ?_
            refine J_istore h dX8_deliverAll_41 (by decide) rfl ?_
            show J l G X Q 7 43 [.ref 58, .int x1, .int x2, .int x3, .int x2, .float 0, .float 0] [] (wr mu 58 0 0) n
            refine J_iconst h dX8_deliverAll_43 ci_0 ?_
            refine J_istore h dX8_deliverAll_44 (by decide) rfl ?_
            show J l G X Q 7 46 [.ref 58, .int x1, .int x2, .int x3, .int x2, .int 0, .float 0] [] (wr mu 58 0 0) n
            exact k9 q1 q3 q5 q7 q8
          · skip
            refine J_iconst h dX8_deliverAll_32 ci_2 ?_
            refine J_goto (tgt := 37) h dX8_deliverAll_33 (by decide) ?_
            refine J_puti (k := 0) (ty0 := tyX8) h dX8_deliverAll_37 jc8 tyX8_ok nmX8 rfl rfl (by decide) rfl rfl rfl w984 ?_
            refine J_iload_n h dX8_deliverAll_40 rfl rfl ?_
            refine J_istore h dX8_deliverAll_41 (by decide) rfl ?_
            show J l G X Q 7 43 [.ref 58, .int x1, .int x2, .int x3, .int x2, .float 0, .float 0] [] (wr mu 58 0 2) n
            refine J_iconst h dX8_deliverAll_43 ci_0 ?_
            refine J_istore h dX8_deliverAll_44 (by decide) rfl ?_
            show J l G X Q 7 46 [.ref 58, .int x1, .int x2, .int x3, .int x2, .int 0, .float 0] [] (wr mu 58 0 2) n
            exact k10 q1 q3 q5 q7 q8
        · skip
          refine J_iconst h dX8_deliverAll_21 ci_1 ?_
          refine J_goto (tgt := 37) h dX8_deliverAll_22 (by decide) ?_
          refine J_puti (k := 0) (ty0 := tyX8) h dX8_deliverAll_37 jc8 tyX8_ok nmX8 rfl rfl (by decide) rfl rfl rfl w984 ?_
          refine J_iload_n h dX8_deliverAll_40 rfl rfl ?_
          refine J_istore h dX8_deliverAll_41 (by decide) rfl ?_
          show J l G X Q 7 43 [.ref 58, .int x1, .int x2, .int x3, .int x2, .float 0, .float 0] [] (wr mu 58 0 1) n
          refine J_iconst h dX8_deliverAll_43 ci_0 ?_
          refine J_istore h dX8_deliverAll_44 (by decide) rfl ?_
          show J l G X Q 7 46 [.ref 58, .int x1, .int x2, .int x3, .int x2, .int 0, .float 0] [] (wr mu 58 0 1) n
          exact k11 q1 q3 q5 q7
theorem rX8_deliverAll_46 {l : Launch} {G : jG} {X : jX} {Q : State → Prop} {n hg nc : Nat} {ret : Option FieldType} {mu : jM} {x1 : Int32} {x2 : Int32} {x3 : Int32} {x4 : Int32} {x5 : Int32} (h : jOk l G X cX8_deliverAll 7 ret RX8 hg nc) (s10 : (mu 58 0) = 0 → ¬ (mu 58 38) ≤ 0 → ¬ x3 ≤ x5 → ¬ x1 = 2 → ¬ x1 = 0 → ¬ x1 = 1 → ¬ (mu 58 38) = 0) (s16 : (mu 58 0) = 0 → ¬ (mu 58 38) ≤ 0 → ¬ x3 ≤ x5 → x1 = 2 → ¬ x1 = 0 → ¬ x1 = 1 → ¬ (mu 58 38) = 0)
    (k2 : ¬ (mu 58 0) = 0 → J l G X Q 7 132 [.ref 58, .int x1, .int x2, .int x3, .int x4, .int x5, .float 0] [] mu n)
    (k4 : (mu 58 0) = 0 → (mu 58 38) ≤ 0 → J l G X Q 7 132 [.ref 58, .int x1, .int x2, .int x3, .int x4, .int x5, .float 0] [] mu n)
    (k6 : (mu 58 0) = 0 → ¬ (mu 58 38) ≤ 0 → x3 ≤ x5 → J l G X Q 7 132 [.ref 58, .int x1, .int x2, .int x3, .int x4, .int x5, .float 0] [] mu n)
    (k11 : (mu 58 0) = 0 → ¬ (mu 58 38) ≤ 0 → ¬ x3 ≤ x5 → ¬ x1 = 2 → ¬ x1 = 0 → ¬ x1 = 1 → J l G X Q 7 121 [.ref 58, .int x1, .int x2, .int x3, .int x4, .int x5, .float 0] [.int (((Int32.toUInt32 x4 >>> (Int32.toUInt32 16 &&& Int32.toUInt32 31)).toInt32) - (((Int32.toUInt32 x4 >>> (Int32.toUInt32 16 &&& Int32.toUInt32 31)).toInt32) / (mu 58 38)) * (mu 58 38)), .ref 58] mu n)
    (k12 : (mu 58 0) = 0 → ¬ (mu 58 38) ≤ 0 → ¬ x3 ≤ x5 → ¬ x1 = 2 → ¬ x1 = 0 → x1 = 1 → J l G X Q 7 121 [.ref 58, .int x1, .int x2, .int x3, .int x4, .int x5, .float 0] [.int ((mu 58 38) - 1), .ref 58] mu n)
    (k13 : (mu 58 0) = 0 → ¬ (mu 58 38) ≤ 0 → ¬ x3 ≤ x5 → ¬ x1 = 2 → x1 = 0 → J l G X Q 7 121 [.ref 58, .int x1, .int x2, .int x3, .int x4, .int x5, .float 0] [.int 0, .ref 58] mu n)
    (k17 : (mu 58 0) = 0 → ¬ (mu 58 38) ≤ 0 → ¬ x3 ≤ x5 → x1 = 2 → ¬ x1 = 0 → ¬ x1 = 1 → J l G X Q 7 121 [.ref 58, .int x1, .int x2, .int x3, .int ((x4 * 1103515245) + 12345), .int x5, .float 0] [.int (((Int32.toUInt32 ((x4 * 1103515245) + 12345) >>> (Int32.toUInt32 16 &&& Int32.toUInt32 31)).toInt32) - (((Int32.toUInt32 ((x4 * 1103515245) + 12345) >>> (Int32.toUInt32 16 &&& Int32.toUInt32 31)).toInt32) / (mu 58 38)) * (mu 58 38)), .ref 58] mu n)
    (k18 : (mu 58 0) = 0 → ¬ (mu 58 38) ≤ 0 → ¬ x3 ≤ x5 → x1 = 2 → ¬ x1 = 0 → x1 = 1 → J l G X Q 7 121 [.ref 58, .int x1, .int x2, .int x3, .int ((x4 * 1103515245) + 12345), .int x5, .float 0] [.int ((mu 58 38) - 1), .ref 58] mu n)
    (k19 : (mu 58 0) = 0 → ¬ (mu 58 38) ≤ 0 → ¬ x3 ≤ x5 → x1 = 2 → x1 = 0 → J l G X Q 7 121 [.ref 58, .int x1, .int x2, .int x3, .int ((x4 * 1103515245) + 12345), .int x5, .float 0] [.int 0, .ref 58] mu n) :
    J l G X Q 7 46 [.ref 58, .int x1, .int x2, .int x3, .int x4, .int x5, .float 0] [] mu n := by
  refine J_aload_n h dX8_deliverAll_46 rfl rfl ?_
  refine J_geti (k := 0) h dX8_deliverAll_47 jc8 rfl rfl (by decide) w984 ?_
  refine J_if_ne (tgt := 132) h dX8_deliverAll_50 (by decide) (fun q1 => ?_) (fun q1 => ?_)
  · skip
    exact k2 q1
  · skip
    refine J_aload_n h dX8_deliverAll_53 rfl rfl ?_
    refine J_geti (k := 38) h dX8_deliverAll_54 jc8 rfl rfl (by decide) w1022 ?_
    refine J_if_le (tgt := 132) h dX8_deliverAll_57 (by decide) (fun q3 => ?_) (fun q3 => ?_)
    · skip
      exact k4 q1 q3
    · skip
      refine J_iload h dX8_deliverAll_60 rfl ?_
      refine J_iload_n h dX8_deliverAll_62 rfl rfl ?_
      refine J_icmp_ge (tgt := 132) h dX8_deliverAll_63 (by decide) (fun q5 => ?_) (fun q5 => ?_)
      · skip
        exact k6 q1 q3 q5
      · skip
        refine J_iload_n h dX8_deliverAll_66 rfl rfl ?_
        refine J_iconst h dX8_deliverAll_67 ci_2 ?_
        refine J_icmp_ne (tgt := 84) h dX8_deliverAll_68 (by decide) (fun q7 => ?_) (fun q7 => ?_)
        · skip
          refine J_iload h dX8_deliverAll_84 rfl ?_
          refine J_istore h dX8_deliverAll_86 (by decide) rfl ?_
          show J l G X Q 7 88 [.ref 58, .int x1, .int x2, .int x3, .int x4, .int x5, .float 0] [] mu n
          refine J_aload_n h dX8_deliverAll_88 rfl rfl ?_
          refine J_iload_n h dX8_deliverAll_89 rfl rfl ?_
          refine J_if_ne (tgt := 97) h dX8_deliverAll_90 (by decide) (fun q8 => ?_) (fun q8 => ?_)
          · skip
            refine J_iload_n h dX8_deliverAll_97 rfl rfl ?_
            refine J_iconst h dX8_deliverAll_98 ci_1 ?_
            refine J_icmp_ne (tgt := 111) h dX8_deliverAll_99 (by decide) (fun q9 => ?_) (fun q9 => ?_)
            · skip
              refine J_iload h dX8_deliverAll_111 rfl ?_
              refine J_bipush h dX8_deliverAll_113 cb_16 ?_
              refine J_iushr h dX8_deliverAll_115 ?_
              refine J_aload_n h dX8_deliverAll_116 rfl rfl ?_
              refine J_geti (k := 38) h dX8_deliverAll_117 jc8 rfl rfl (by decide) w1022 ?_
              refine J_irem h dX8_deliverAll_120 (s10 q1 q3 q5 q7 q8 q9) ?_
              exact k11 q1 q3 q5 q7 q8 q9
            · skip
              refine J_aload_n h dX8_deliverAll_102 rfl rfl ?_
              refine J_geti (k := 38) h dX8_deliverAll_103 jc8 rfl rfl (by decide) w1022 ?_
              refine J_iconst h dX8_deliverAll_106 ci_1 ?_
              refine J_isub h dX8_deliverAll_107 ?_
              refine J_goto (tgt := 121) h dX8_deliverAll_108 (by decide) ?_
              exact k12 q1 q3 q5 q7 q8 q9
          · skip
            refine J_iconst h dX8_deliverAll_93 ci_0 ?_
            refine J_goto (tgt := 121) h dX8_deliverAll_94 (by decide) ?_
            exact k13 q1 q3 q5 q7 q8
        · skip
          refine J_iload h dX8_deliverAll_71 rfl ?_
          refine J_ldc_w h dX8_deliverAll_73 w1380 ?_
          refine J_imul h dX8_deliverAll_76 ?_
          refine J_sipush h dX8_deliverAll_77 cs_12345 ?_
          refine J_iadd h dX8_deliverAll_80 ?_
          refine J_goto (tgt := 86) h dX8_deliverAll_81 (by decide) ?_
          refine J_istore h dX8_deliverAll_86 (by decide) rfl ?_
          show J l G X Q 7 88 [.ref 58, .int x1, .int x2, .int x3, .int ((x4 * 1103515245) + 12345), .int x5, .float 0] [] mu n
          refine J_aload_n h dX8_deliverAll_88 rfl rfl ?_
          refine J_iload_n h dX8_deliverAll_89 rfl rfl ?_
          refine J_if_ne (tgt := 97) h dX8_deliverAll_90 (by decide) (fun q14 => ?_) (fun q14 => ?_)
          · skip
            refine J_iload_n h dX8_deliverAll_97 rfl rfl ?_
            refine J_iconst h dX8_deliverAll_98 ci_1 ?_
            refine J_icmp_ne (tgt := 111) h dX8_deliverAll_99 (by decide) (fun q15 => ?_) (fun q15 => ?_)
            · skip
              refine J_iload h dX8_deliverAll_111 rfl ?_
              refine J_bipush h dX8_deliverAll_113 cb_16 ?_
              refine J_iushr h dX8_deliverAll_115 ?_
              refine J_aload_n h dX8_deliverAll_116 rfl rfl ?_
              refine J_geti (k := 38) h dX8_deliverAll_117 jc8 rfl rfl (by decide) w1022 ?_
              refine J_irem h dX8_deliverAll_120 (s16 q1 q3 q5 q7 q14 q15) ?_
              exact k17 q1 q3 q5 q7 q14 q15
            · skip
              refine J_aload_n h dX8_deliverAll_102 rfl rfl ?_
              refine J_geti (k := 38) h dX8_deliverAll_103 jc8 rfl rfl (by decide) w1022 ?_
              refine J_iconst h dX8_deliverAll_106 ci_1 ?_
              refine J_isub h dX8_deliverAll_107 ?_
              refine J_goto (tgt := 121) h dX8_deliverAll_108 (by decide) ?_
              exact k18 q1 q3 q5 q7 q14 q15
          · skip
            refine J_iconst h dX8_deliverAll_93 ci_0 ?_
            refine J_goto (tgt := 121) h dX8_deliverAll_94 (by decide) ?_
            exact k19 q1 q3 q5 q7 q14
theorem rX8_deliverAll_132 {l : Launch} {G : jG} {X : jX} {Q : State → Prop} {n hg nc : Nat} {ret : Option FieldType} {mu : jM} {x1 : Int32} {x2 : Int32} {x3 : Int32} {x4 : Int32} {x5 : Int32} (h : jOk l G X cX8_deliverAll 7 ret RX8 hg nc)
    (k1 : J l G X Q 7 134 [.ref 58, .int x1, .int x2, .int x3, .int x4, .int x5, .float 0] [.int x5] mu n) :
    J l G X Q 7 132 [.ref 58, .int x1, .int x2, .int x3, .int x4, .int x5, .float 0] [] mu n := by
  refine J_iload h dX8_deliverAll_132 rfl ?_
  exact k1
theorem rX8_deliverAll_121 {l : Launch} {G : jG} {X : jX} {Q : State → Prop} {n hg nc : Nat} {ret : Option FieldType} {mu : jM} {x1 : Int32} {x2 : Int32} {x3 : Int32} {x4 : Int32} {x5 : Int32} {y0 : Int32} {Qc : Int32 → jM → Prop} {h' : Nat} (h : jOk l G X cX8_deliverAll 7 ret RX8 hg nc) (hM : jCi l G yX8_bring cX8_bring 8 h' (some .int) (.ref 58 :: [.int y0]) mu Qc) (hh : h' < hg ∧ 8 ≤ 21) (hn : n ≤ nc)
    (kk : ∀ v mu', Qc v mu' → J l G X Q 7 124 [.ref 58, .int x1, .int x2, .int x3, .int x4, .int x5, .float 0] (.int v :: []) mu' n) :
    J l G X Q 7 121 [.ref 58, .int x1, .int x2, .int x3, .int x4, .int x5, .float 0] [.int y0, .ref 58] mu n :=
  J_callVi (As := [.int y0]) (rest := []) h dX8_deliverAll_121 hM (jgV w1372 w1374 w74 w84 w1375) rfl (ci := 8) rfl rfl nmX8_bring rfl hh (Nat.le_of_ble_eq_true rfl) rfl kk hn
theorem rX8_deliverAll_124 {l : Launch} {G : jG} {X : jX} {Q : State → Prop} {n hg nc : Nat} {ret : Option FieldType} {mu : jM} {x1 : Int32} {x2 : Int32} {x3 : Int32} {x4 : Int32} {x5 : Int32} {y0 : Int32} (h : jOk l G X cX8_deliverAll 7 ret RX8 hg nc)
    (k1 : J l G X Q 7 46 [.ref 58, .int x1, .int x2, .int x3, .int x4, .int (x5 + 1), .int y0] [] mu n) :
    J l G X Q 7 124 [.ref 58, .int x1, .int x2, .int x3, .int x4, .int x5, .float 0] [.int y0] mu n := by
  refine J_istore h dX8_deliverAll_124 (by decide) rfl ?_
  show J l G X Q 7 126 [.ref 58, .int x1, .int x2, .int x3, .int x4, .int x5, .int y0] [] mu n
  refine J_iinc h dX8_deliverAll_126 rfl (cc_1 _) (by decide) rfl ?_
  show J l G X Q 7 129 [.ref 58, .int x1, .int x2, .int x3, .int x4, .int (x5 + 1), .int y0] [] mu n
  refine J_goto (tgt := 46) h dX8_deliverAll_129 (by decide) ?_
  exact k1
theorem rX8_deliverAll_46b {l : Launch} {G : jG} {X : jX} {Q : State → Prop} {n hg nc : Nat} {ret : Option FieldType} {mu : jM} {x1 : Int32} {x2 : Int32} {x3 : Int32} {x4 : Int32} {x5 : Int32} {x6 : Int32} (h : jOk l G X cX8_deliverAll 7 ret RX8 hg nc) (s10 : (mu 58 0) = 0 → ¬ (mu 58 38) ≤ 0 → ¬ x3 ≤ x5 → ¬ x1 = 2 → ¬ x1 = 0 → ¬ x1 = 1 → ¬ (mu 58 38) = 0) (s16 : (mu 58 0) = 0 → ¬ (mu 58 38) ≤ 0 → ¬ x3 ≤ x5 → x1 = 2 → ¬ x1 = 0 → ¬ x1 = 1 → ¬ (mu 58 38) = 0)
    (k2 : ¬ (mu 58 0) = 0 → J l G X Q 7 132 [.ref 58, .int x1, .int x2, .int x3, .int x4, .int x5, .int x6] [] mu n)
    (k4 : (mu 58 0) = 0 → (mu 58 38) ≤ 0 → J l G X Q 7 132 [.ref 58, .int x1, .int x2, .int x3, .int x4, .int x5, .int x6] [] mu n)
    (k6 : (mu 58 0) = 0 → ¬ (mu 58 38) ≤ 0 → x3 ≤ x5 → J l G X Q 7 132 [.ref 58, .int x1, .int x2, .int x3, .int x4, .int x5, .int x6] [] mu n)
    (k11 : (mu 58 0) = 0 → ¬ (mu 58 38) ≤ 0 → ¬ x3 ≤ x5 → ¬ x1 = 2 → ¬ x1 = 0 → ¬ x1 = 1 → J l G X Q 7 121 [.ref 58, .int x1, .int x2, .int x3, .int x4, .int x5, .int x6] [.int (((Int32.toUInt32 x4 >>> (Int32.toUInt32 16 &&& Int32.toUInt32 31)).toInt32) - (((Int32.toUInt32 x4 >>> (Int32.toUInt32 16 &&& Int32.toUInt32 31)).toInt32) / (mu 58 38)) * (mu 58 38)), .ref 58] mu n)
    (k12 : (mu 58 0) = 0 → ¬ (mu 58 38) ≤ 0 → ¬ x3 ≤ x5 → ¬ x1 = 2 → ¬ x1 = 0 → x1 = 1 → J l G X Q 7 121 [.ref 58, .int x1, .int x2, .int x3, .int x4, .int x5, .int x6] [.int ((mu 58 38) - 1), .ref 58] mu n)
    (k13 : (mu 58 0) = 0 → ¬ (mu 58 38) ≤ 0 → ¬ x3 ≤ x5 → ¬ x1 = 2 → x1 = 0 → J l G X Q 7 121 [.ref 58, .int x1, .int x2, .int x3, .int x4, .int x5, .int x6] [.int 0, .ref 58] mu n)
    (k17 : (mu 58 0) = 0 → ¬ (mu 58 38) ≤ 0 → ¬ x3 ≤ x5 → x1 = 2 → ¬ x1 = 0 → ¬ x1 = 1 → J l G X Q 7 121 [.ref 58, .int x1, .int x2, .int x3, .int ((x4 * 1103515245) + 12345), .int x5, .int x6] [.int (((Int32.toUInt32 ((x4 * 1103515245) + 12345) >>> (Int32.toUInt32 16 &&& Int32.toUInt32 31)).toInt32) - (((Int32.toUInt32 ((x4 * 1103515245) + 12345) >>> (Int32.toUInt32 16 &&& Int32.toUInt32 31)).toInt32) / (mu 58 38)) * (mu 58 38)), .ref 58] mu n)
    (k18 : (mu 58 0) = 0 → ¬ (mu 58 38) ≤ 0 → ¬ x3 ≤ x5 → x1 = 2 → ¬ x1 = 0 → x1 = 1 → J l G X Q 7 121 [.ref 58, .int x1, .int x2, .int x3, .int ((x4 * 1103515245) + 12345), .int x5, .int x6] [.int ((mu 58 38) - 1), .ref 58] mu n)
    (k19 : (mu 58 0) = 0 → ¬ (mu 58 38) ≤ 0 → ¬ x3 ≤ x5 → x1 = 2 → x1 = 0 → J l G X Q 7 121 [.ref 58, .int x1, .int x2, .int x3, .int ((x4 * 1103515245) + 12345), .int x5, .int x6] [.int 0, .ref 58] mu n) :
    J l G X Q 7 46 [.ref 58, .int x1, .int x2, .int x3, .int x4, .int x5, .int x6] [] mu n := by
  refine J_aload_n h dX8_deliverAll_46 rfl rfl ?_
  refine J_geti (k := 0) h dX8_deliverAll_47 jc8 rfl rfl (by decide) w984 ?_
  refine J_if_ne (tgt := 132) h dX8_deliverAll_50 (by decide) (fun q1 => ?_) (fun q1 => ?_)
  · skip
    exact k2 q1
  · skip
    refine J_aload_n h dX8_deliverAll_53 rfl rfl ?_
    refine J_geti (k := 38) h dX8_deliverAll_54 jc8 rfl rfl (by decide) w1022 ?_
    refine J_if_le (tgt := 132) h dX8_deliverAll_57 (by decide) (fun q3 => ?_) (fun q3 => ?_)
    · skip
      exact k4 q1 q3
    · skip
      refine J_iload h dX8_deliverAll_60 rfl ?_
      refine J_iload_n h dX8_deliverAll_62 rfl rfl ?_
      refine J_icmp_ge (tgt := 132) h dX8_deliverAll_63 (by decide) (fun q5 => ?_) (fun q5 => ?_)
      · skip
        exact k6 q1 q3 q5
      · skip
        refine J_iload_n h dX8_deliverAll_66 rfl rfl ?_
        refine J_iconst h dX8_deliverAll_67 ci_2 ?_
        refine J_icmp_ne (tgt := 84) h dX8_deliverAll_68 (by decide) (fun q7 => ?_) (fun q7 => ?_)
        · skip
          refine J_iload h dX8_deliverAll_84 rfl ?_
          refine J_istore h dX8_deliverAll_86 (by decide) rfl ?_
          show J l G X Q 7 88 [.ref 58, .int x1, .int x2, .int x3, .int x4, .int x5, .int x6] [] mu n
          refine J_aload_n h dX8_deliverAll_88 rfl rfl ?_
          refine J_iload_n h dX8_deliverAll_89 rfl rfl ?_
          refine J_if_ne (tgt := 97) h dX8_deliverAll_90 (by decide) (fun q8 => ?_) (fun q8 => ?_)
          · skip
            refine J_iload_n h dX8_deliverAll_97 rfl rfl ?_
            refine J_iconst h dX8_deliverAll_98 ci_1 ?_
            refine J_icmp_ne (tgt := 111) h dX8_deliverAll_99 (by decide) (fun q9 => ?_) (fun q9 => ?_)
            · skip
              refine J_iload h dX8_deliverAll_111 rfl ?_
              refine J_bipush h dX8_deliverAll_113 cb_16 ?_
              refine J_iushr h dX8_deliverAll_115 ?_
              refine J_aload_n h dX8_deliverAll_116 rfl rfl ?_
              refine J_geti (k := 38) h dX8_deliverAll_117 jc8 rfl rfl (by decide) w1022 ?_
              refine J_irem h dX8_deliverAll_120 (s10 q1 q3 q5 q7 q8 q9) ?_
              exact k11 q1 q3 q5 q7 q8 q9
            · skip
              refine J_aload_n h dX8_deliverAll_102 rfl rfl ?_
              refine J_geti (k := 38) h dX8_deliverAll_103 jc8 rfl rfl (by decide) w1022 ?_
              refine J_iconst h dX8_deliverAll_106 ci_1 ?_
              refine J_isub h dX8_deliverAll_107 ?_
              refine J_goto (tgt := 121) h dX8_deliverAll_108 (by decide) ?_
              exact k12 q1 q3 q5 q7 q8 q9
          · skip
            refine J_iconst h dX8_deliverAll_93 ci_0 ?_
            refine J_goto (tgt := 121) h dX8_deliverAll_94 (by decide) ?_
            exact k13 q1 q3 q5 q7 q8
        · skip
          refine J_iload h dX8_deliverAll_71 rfl ?_
          refine J_ldc_w h dX8_deliverAll_73 w1380 ?_
          refine J_imul h dX8_deliverAll_76 ?_
          refine J_sipush h dX8_deliverAll_77 cs_12345 ?_
          refine J_iadd h dX8_deliverAll_80 ?_
          refine J_goto (tgt := 86) h dX8_deliverAll_81 (by decide) ?_
          refine J_istore h dX8_deliverAll_86 (by decide) rfl ?_
          show J l G X Q 7 88 [.ref 58, .int x1, .int x2, .int x3, .int ((x4 * 1103515245) + 12345), .int x5, .int x6] [] mu n
          refine J_aload_n h dX8_deliverAll_88 rfl rfl ?_
          refine J_iload_n h dX8_deliverAll_89 rfl rfl ?_
          refine J_if_ne (tgt := 97) h dX8_deliverAll_90 (by decide) (fun q14 => ?_) (fun q14 => ?_)
          · skip
            refine J_iload_n h dX8_deliverAll_97 rfl rfl ?_
            refine J_iconst h dX8_deliverAll_98 ci_1 ?_
            refine J_icmp_ne (tgt := 111) h dX8_deliverAll_99 (by decide) (fun q15 => ?_) (fun q15 => ?_)
            · skip
              refine J_iload h dX8_deliverAll_111 rfl ?_
              refine J_bipush h dX8_deliverAll_113 cb_16 ?_
              refine J_iushr h dX8_deliverAll_115 ?_
              refine J_aload_n h dX8_deliverAll_116 rfl rfl ?_
              refine J_geti (k := 38) h dX8_deliverAll_117 jc8 rfl rfl (by decide) w1022 ?_
              refine J_irem h dX8_deliverAll_120 (s16 q1 q3 q5 q7 q14 q15) ?_
              exact k17 q1 q3 q5 q7 q14 q15
            · skip
              refine J_aload_n h dX8_deliverAll_102 rfl rfl ?_
              refine J_geti (k := 38) h dX8_deliverAll_103 jc8 rfl rfl (by decide) w1022 ?_
              refine J_iconst h dX8_deliverAll_106 ci_1 ?_
              refine J_isub h dX8_deliverAll_107 ?_
              refine J_goto (tgt := 121) h dX8_deliverAll_108 (by decide) ?_
              exact k18 q1 q3 q5 q7 q14 q15
          · skip
            refine J_iconst h dX8_deliverAll_93 ci_0 ?_
            refine J_goto (tgt := 121) h dX8_deliverAll_94 (by decide) ?_
            exact k19 q1 q3 q5 q7 q14
theorem rX8_deliverAll_132b {l : Launch} {G : jG} {X : jX} {Q : State → Prop} {n hg nc : Nat} {ret : Option FieldType} {mu : jM} {x1 : Int32} {x2 : Int32} {x3 : Int32} {x4 : Int32} {x5 : Int32} {x6 : Int32} (h : jOk l G X cX8_deliverAll 7 ret RX8 hg nc)
    (k1 : J l G X Q 7 134 [.ref 58, .int x1, .int x2, .int x3, .int x4, .int x5, .int x6] [.int x5] mu n) :
    J l G X Q 7 132 [.ref 58, .int x1, .int x2, .int x3, .int x4, .int x5, .int x6] [] mu n := by
  refine J_iload h dX8_deliverAll_132 rfl ?_
  exact k1
theorem rX8_deliverAll_121b {l : Launch} {G : jG} {X : jX} {Q : State → Prop} {n hg nc : Nat} {ret : Option FieldType} {mu : jM} {x1 : Int32} {x2 : Int32} {x3 : Int32} {x4 : Int32} {x5 : Int32} {x6 : Int32} {y0 : Int32} {Qc : Int32 → jM → Prop} {h' : Nat} (h : jOk l G X cX8_deliverAll 7 ret RX8 hg nc) (hM : jCi l G yX8_bring cX8_bring 8 h' (some .int) (.ref 58 :: [.int y0]) mu Qc) (hh : h' < hg ∧ 8 ≤ 21) (hn : n ≤ nc)
    (kk : ∀ v mu', Qc v mu' → J l G X Q 7 124 [.ref 58, .int x1, .int x2, .int x3, .int x4, .int x5, .int x6] (.int v :: []) mu' n) :
    J l G X Q 7 121 [.ref 58, .int x1, .int x2, .int x3, .int x4, .int x5, .int x6] [.int y0, .ref 58] mu n :=
  J_callVi (As := [.int y0]) (rest := []) h dX8_deliverAll_121 hM (jgV w1372 w1374 w74 w84 w1375) rfl (ci := 8) rfl rfl nmX8_bring rfl hh (Nat.le_of_ble_eq_true rfl) rfl kk hn
theorem rX8_deliverAll_124b {l : Launch} {G : jG} {X : jX} {Q : State → Prop} {n hg nc : Nat} {ret : Option FieldType} {mu : jM} {x1 : Int32} {x2 : Int32} {x3 : Int32} {x4 : Int32} {x5 : Int32} {x6 : Int32} {y0 : Int32} (h : jOk l G X cX8_deliverAll 7 ret RX8 hg nc)
    (k1 : J l G X Q 7 46 [.ref 58, .int x1, .int x2, .int x3, .int x4, .int (x5 + 1), .int y0] [] mu n) :
    J l G X Q 7 124 [.ref 58, .int x1, .int x2, .int x3, .int x4, .int x5, .int x6] [.int y0] mu n := by
  refine J_istore h dX8_deliverAll_124 (by decide) rfl ?_
  show J l G X Q 7 126 [.ref 58, .int x1, .int x2, .int x3, .int x4, .int x5, .int y0] [] mu n
  refine J_iinc h dX8_deliverAll_126 rfl (cc_1 _) (by decide) rfl ?_
  show J l G X Q 7 129 [.ref 58, .int x1, .int x2, .int x3, .int x4, .int (x5 + 1), .int y0] [] mu n
  refine J_goto (tgt := 46) h dX8_deliverAll_129 (by decide) ?_
  exact k1
/-! LockstepNetModel.switchTo(I)I -/
theorem rX8_switchTo_0 {l : Launch} {G : jG} {X : jX} {Q : State → Prop} {n hg nc : Nat} {ret : Option FieldType} {mu : jM} {x1 : Int32} (h : jOk l G X cX8_switchTo 4 ret RX8 hg nc)
    (k3 : x1 < 0 → J l G X Q 4 50 [.ref 58, .int x1, .float 0, .float 0] [.int 0] (wr mu 58 0 1) n)
    (k8 : ¬ x1 < 0 → x1 ≤ 2 → ¬ (mu 58 18) = 0 → ¬ (mu 58 20) = 8 → J l G X Q 4 55 [.ref 58, .int x1, .int 0, .int 0] [] (wr mu 58 0 0) n)
    (k10 : ¬ x1 < 0 → x1 ≤ 2 → ¬ (mu 58 18) = 0 → (mu 58 20) = 8 → J l G X Q 4 50 [.ref 58, .int x1, .float 0, .float 0] [.int 0] (wr mu 58 0 3) n)
    (k12 : ¬ x1 < 0 → x1 ≤ 2 → (mu 58 18) = 0 → J l G X Q 4 50 [.ref 58, .int x1, .float 0, .float 0] [.int 0] (wr mu 58 0 2) n)
    (k14 : ¬ x1 < 0 → ¬ x1 ≤ 2 → J l G X Q 4 50 [.ref 58, .int x1, .float 0, .float 0] [.int 0] (wr mu 58 0 1) n) :
    J l G X Q 4 0 [.ref 58, .int x1, .float 0, .float 0] [] mu n := by
  refine J_aload_n h dX8_switchTo_0 rfl rfl ?_
  refine J_iload_n h dX8_switchTo_1 rfl rfl ?_
  refine J_if_lt (tgt := 10) h dX8_switchTo_2 (by decide) (fun q1 => ?_) (fun q1 => ?_)
  · skip
    refine J_iconst h dX8_switchTo_10 ci_1 ?_
    refine J_goto (tgt := 39) h dX8_switchTo_11 (by decide) ?_
    refine J_puti (k := 0) (ty0 := tyX8) h dX8_switchTo_39 jc8 tyX8_ok nmX8 rfl rfl (by decide) rfl rfl rfl w984 ?_
    refine J_aload_n h dX8_switchTo_42 rfl rfl ?_
    refine J_geti (k := 0) h dX8_switchTo_43 jc8 rfl rfl (by decide) w984 ?_
    refine J_if_le (tgt := 51) h dX8_switchTo_46 (by decide) (fun q2 => ?_) (fun q2 => ?_)
    · skip
      exact absurd (show (1 : Int32) ≤ (0 : Int32) from q2) (by decide)
    · skip
      refine J_iconst h dX8_switchTo_49 ci_0 ?_
      exact k3 q1
  · skip
    refine J_iload_n h dX8_switchTo_5 rfl rfl ?_
    refine J_iconst h dX8_switchTo_6 ci_2 ?_
    refine J_icmp_le (tgt := 14) h dX8_switchTo_7 (by decide) (fun q4 => ?_) (fun q4 => ?_)
    · skip
      refine J_aload_n h dX8_switchTo_14 rfl rfl ?_
      refine J_geti (k := 18) h dX8_switchTo_15 jc8 rfl rfl (by decide) w1002 ?_
      refine J_if_ne (tgt := 25) h dX8_switchTo_18 (by decide) (fun q5 => ?_) (fun q5 => ?_)
      · skip
        refine J_aload_n h dX8_switchTo_25 rfl rfl ?_
        refine J_geti (k := 20) h dX8_switchTo_26 jc8 rfl rfl (by decide) w1004 ?_
        refine J_bipush h dX8_switchTo_29 cb_8 ?_
        refine J_icmp_ne (tgt := 38) h dX8_switchTo_31 (by decide) (fun q6 => ?_) (fun q6 => ?_)
        · skip
          refine J_iconst h dX8_switchTo_38 ci_0 ?_
          refine J_puti (k := 0) (ty0 := tyX8) h dX8_switchTo_39 jc8 tyX8_ok nmX8 rfl rfl (by decide) rfl rfl rfl w984 ?_
          refine J_aload_n h dX8_switchTo_42 rfl rfl ?_
          refine J_geti (k := 0) h dX8_switchTo_43 jc8 rfl rfl (by decide) w984 ?_
          refine J_if_le (tgt := 51) h dX8_switchTo_46 (by decide) (fun q7 => ?_) (fun q7 => ?_)
          · skip
            refine J_iconst h dX8_switchTo_51 ci_0 ?_
            refine J_istore_n h dX8_switchTo_52 rfl (by decide) rfl ?_
            show J l G X Q 4 53 [.ref 58, .int x1, .int 0, .float 0] [] (wr mu 58 0 0) n
            refine J_iconst h dX8_switchTo_53 ci_0 ?_
            refine J_istore_n h dX8_switchTo_54 rfl (by decide) rfl ?_
            show J l G X Q 4 55 [.ref 58, .int x1, .int 0, .int 0] [] (wr mu 58 0 0) n
            exact k8 q1 q4 q5 q6
          · skip
            exact absurd (show ¬ (0 : Int32) ≤ (0 : Int32) from q7) (by decide)
        · skip
          refine J_iconst h dX8_switchTo_34 ci_3 ?_
          refine J_goto (tgt := 39) h dX8_switchTo_35 (by decide) ?_
          refine J_puti (k := 0) (ty0 := tyX8) h dX8_switchTo_39 jc8 tyX8_ok nmX8 rfl rfl (by decide) rfl rfl rfl w984 ?_
          refine J_aload_n h dX8_switchTo_42 rfl rfl ?_
          refine J_geti (k := 0) h dX8_switchTo_43 jc8 rfl rfl (by decide) w984 ?_
          refine J_if_le (tgt := 51) h dX8_switchTo_46 (by decide) (fun q9 => ?_) (fun q9 => ?_)
          · skip
            exact absurd (show (3 : Int32) ≤ (0 : Int32) from q9) (by decide)
          · skip
            refine J_iconst h dX8_switchTo_49 ci_0 ?_
            exact k10 q1 q4 q5 q6
      · skip
        refine J_iconst h dX8_switchTo_21 ci_2 ?_
        refine J_goto (tgt := 39) h dX8_switchTo_22 (by decide) ?_
        refine J_puti (k := 0) (ty0 := tyX8) h dX8_switchTo_39 jc8 tyX8_ok nmX8 rfl rfl (by decide) rfl rfl rfl w984 ?_
        refine J_aload_n h dX8_switchTo_42 rfl rfl ?_
        refine J_geti (k := 0) h dX8_switchTo_43 jc8 rfl rfl (by decide) w984 ?_
        refine J_if_le (tgt := 51) h dX8_switchTo_46 (by decide) (fun q11 => ?_) (fun q11 => ?_)
        · skip
          exact absurd (show (2 : Int32) ≤ (0 : Int32) from q11) (by decide)
        · skip
          refine J_iconst h dX8_switchTo_49 ci_0 ?_
          exact k12 q1 q4 q5
    · skip
      refine J_iconst h dX8_switchTo_10 ci_1 ?_
      refine J_goto (tgt := 39) h dX8_switchTo_11 (by decide) ?_
      refine J_puti (k := 0) (ty0 := tyX8) h dX8_switchTo_39 jc8 tyX8_ok nmX8 rfl rfl (by decide) rfl rfl rfl w984 ?_
      refine J_aload_n h dX8_switchTo_42 rfl rfl ?_
      refine J_geti (k := 0) h dX8_switchTo_43 jc8 rfl rfl (by decide) w984 ?_
      refine J_if_le (tgt := 51) h dX8_switchTo_46 (by decide) (fun q13 => ?_) (fun q13 => ?_)
      · skip
        exact absurd (show (1 : Int32) ≤ (0 : Int32) from q13) (by decide)
      · skip
        refine J_iconst h dX8_switchTo_49 ci_0 ?_
        exact k14 q1 q4
theorem rX8_switchTo_55 {l : Launch} {G : jG} {X : jX} {Q : State → Prop} {n hg nc : Nat} {ret : Option FieldType} {mu : jM} {x1 : Int32} {x2 : Int32} {x3 : Int32} (h : jOk l G X cX8_switchTo 4 ret RX8 hg nc) (s2 : (mu 58 1) ≤ x3 → vp_in ((mu 58 20) + 1) 9) (s3 : (mu 58 1) ≤ x3 → vp_in ((mu 58 20) + 1) 9) (s5 : ¬ (mu 58 1) ≤ x3 → vp_in x3 24) (s8 : ¬ (mu 58 1) ≤ x3 → ¬ (mu 75 (x3).toNatClampNeg) ≤ x2 → vp_in x3 24)
    (k4 : (mu 58 1) ≤ x3 → J l G X Q 4 125 [.ref 58, .int x1, .int x2, .int x3] [.int (x2 + 1)] (wr (wr (wr mu 58 20 ((mu 58 20) + 1)) 73 (((mu 58 20) + 1)).toNatClampNeg (x2 + 1)) 74 (((mu 58 20) + 1)).toNatClampNeg x1) n)
    (k7 : ¬ (mu 58 1) ≤ x3 → (mu 75 (x3).toNatClampNeg) ≤ x2 → J l G X Q 4 55 [.ref 58, .int x1, .int x2, .int (x3 + 1)] [] mu n)
    (k9 : ¬ (mu 58 1) ≤ x3 → ¬ (mu 75 (x3).toNatClampNeg) ≤ x2 → J l G X Q 4 55 [.ref 58, .int x1, .int (mu 75 (x3).toNatClampNeg), .int (x3 + 1)] [] mu n) :
    J l G X Q 4 55 [.ref 58, .int x1, .int x2, .int x3] [] mu n := by
  refine J_iload_n h dX8_switchTo_55 rfl rfl ?_
  refine J_aload_n h dX8_switchTo_56 rfl rfl ?_
  refine J_geti (k := 1) h dX8_switchTo_57 jc8 rfl rfl (by decide) w985 ?_
  refine J_icmp_ge (tgt := 90) h dX8_switchTo_60 (by decide) (fun q1 => ?_) (fun q1 => ?_)
  · skip
    refine J_aload_n h dX8_switchTo_90 rfl rfl ?_
    refine J_dup h dX8_switchTo_91 rfl ?_
    refine J_geti (k := 20) h dX8_switchTo_92 jc8 rfl rfl (by decide) w1004 ?_
    refine J_iconst h dX8_switchTo_95 ci_1 ?_
    refine J_iadd h dX8_switchTo_96 ?_
    refine J_puti (k := 20) (ty0 := tyX8) h dX8_switchTo_97 jc8 tyX8_ok nmX8 rfl rfl (by decide) rfl rfl rfl w1004 ?_
    refine J_aload_n h dX8_switchTo_100 rfl rfl ?_
    refine J_getr (k := 21) h dX8_switchTo_101 jc8 rfl rfl (by decide) w1005 ?_
    refine J_aload_n h dX8_switchTo_104 rfl rfl ?_
    refine J_geti (k := 20) h dX8_switchTo_105 jc8 rfl rfl (by decide) w1004 ?_
    refine J_iload_n h dX8_switchTo_108 rfl rfl ?_
    refine J_iconst h dX8_switchTo_109 ci_1 ?_
    refine J_iadd h dX8_switchTo_110 ?_
    refine J_iast h dX8_switchTo_111 rfl (s2 q1) ?_
    refine J_aload_n h dX8_switchTo_112 rfl rfl ?_
    refine J_getr (k := 22) h dX8_switchTo_113 jc8 rfl rfl (by decide) w1006 ?_
    refine J_aload_n h dX8_switchTo_116 rfl rfl ?_
    refine J_geti (k := 20) h dX8_switchTo_117 jc8 rfl rfl (by decide) w1004 ?_
    refine J_iload_n h dX8_switchTo_120 rfl rfl ?_
    refine J_iast h dX8_switchTo_121 rfl (s3 q1) ?_
    refine J_iload_n h dX8_switchTo_122 rfl rfl ?_
    refine J_iconst h dX8_switchTo_123 ci_1 ?_
    refine J_iadd h dX8_switchTo_124 ?_
    exact k4 q1
  · skip
    refine J_aload_n h dX8_switchTo_63 rfl rfl ?_
    refine J_getr (k := 23) h dX8_switchTo_64 jc8 rfl rfl (by decide) w1007 ?_
    refine J_iload_n h dX8_switchTo_67 rfl rfl ?_
    refine J_iald h dX8_switchTo_68 rfl (s5 q1) ?_
    refine J_iload_n h dX8_switchTo_69 rfl rfl ?_
    refine J_icmp_le (tgt := 82) h dX8_switchTo_70 (by decide) (fun q6 => ?_) (fun q6 => ?_)
    · skip
      refine J_iload_n h dX8_switchTo_82 rfl rfl ?_
      refine J_istore_n h dX8_switchTo_83 rfl (by decide) rfl ?_
      show J l G X Q 4 84 [.ref 58, .int x1, .int x2, .int x3] [] mu n
      refine J_iinc h dX8_switchTo_84 rfl (cc_1 _) (by decide) rfl ?_
      show J l G X Q 4 87 [.ref 58, .int x1, .int x2, .int (x3 + 1)] [] mu n
      refine J_goto (tgt := 55) h dX8_switchTo_87 (by decide) ?_
      exact k7 q1 q6
    · skip
      refine J_aload_n h dX8_switchTo_73 rfl rfl ?_
      refine J_getr (k := 23) h dX8_switchTo_74 jc8 rfl rfl (by decide) w1007 ?_
      refine J_iload_n h dX8_switchTo_77 rfl rfl ?_
      refine J_iald h dX8_switchTo_78 rfl (s8 q1 q6) ?_
      refine J_goto (tgt := 83) h dX8_switchTo_79 (by decide) ?_
      refine J_istore_n h dX8_switchTo_83 rfl (by decide) rfl ?_
      show J l G X Q 4 84 [.ref 58, .int x1, .int (mu 75 (x3).toNatClampNeg), .int x3] [] mu n
      refine J_iinc h dX8_switchTo_84 rfl (cc_1 _) (by decide) rfl ?_
      show J l G X Q 4 87 [.ref 58, .int x1, .int (mu 75 (x3).toNatClampNeg), .int (x3 + 1)] [] mu n
      refine J_goto (tgt := 55) h dX8_switchTo_87 (by decide) ?_
      exact k9 q1 q6
/-! LockstepNetModel.roundOf(I)I -/
theorem rX8_roundOf_0 {l : Launch} {G : jG} {X : jX} {Q : State → Prop} {n hg nc : Nat} {ret : Option FieldType} {mu : jM} {x1 : Int32} (h : jOk l G X cX8_roundOf 2 ret RX8 hg nc)
    (k1 : J l G X Q 2 3 [.ref 58, .int x1] [.int x1, .ref 58, .ref 58] mu n) :
    J l G X Q 2 0 [.ref 58, .int x1] [] mu n := by
  refine J_aload_n h dX8_roundOf_0 rfl rfl ?_
  refine J_aload_n h dX8_roundOf_1 rfl rfl ?_
  refine J_iload_n h dX8_roundOf_2 rfl rfl ?_
  exact k1
theorem rX8_roundOf_3 {l : Launch} {G : jG} {X : jX} {Q : State → Prop} {n hg nc : Nat} {ret : Option FieldType} {mu : jM} {x1 : Int32} {y0 : Int32} {Qc : Int32 → jM → Prop} {h' : Nat} (h : jOk l G X cX8_roundOf 2 ret RX8 hg nc) (hM : jCi l G yX8_isNode cX8_isNode 2 h' (some .boolean) (.ref 58 :: [.int y0]) mu Qc) (hh : h' < hg ∧ 2 ≤ 21) (hn : n ≤ nc)
    (kk : ∀ v mu', Qc v mu' → J l G X Q 2 6 [.ref 58, .int x1] (.int v :: [.ref 58]) mu' n) :
    J l G X Q 2 3 [.ref 58, .int x1] [.int y0, .ref 58, .ref 58] mu n :=
  J_callVi (As := [.int y0]) (rest := [.ref 58]) h dX8_roundOf_3 hM (jgV w1130 w1132 w31 w84 w1133) rfl (ci := 8) rfl rfl nmX8_isNode rfl hh (Nat.le_of_ble_eq_true rfl) rfl kk hn
theorem rX8_roundOf_6 {l : Launch} {G : jG} {X : jX} {Q : State → Prop} {n hg nc : Nat} {ret : Option FieldType} {mu : jM} {x1 : Int32} {y0 : Int32} (h : jOk l G X cX8_roundOf 2 ret RX8 hg nc) (s4 : ¬ y0 = 0 → ¬ (mu 58 18) = 0 → vp_in x1 24)
    (k5 : ¬ y0 = 0 → ¬ (mu 58 18) = 0 → J l G X Q 2 45 [.ref 58, .int x1] [.int (mu 75 (x1).toNatClampNeg)] (wr mu 58 0 0) n)
    (k7 : ¬ y0 = 0 → (mu 58 18) = 0 → J l G X Q 2 45 [.ref 58, .int x1] [.int 0] (wr mu 58 0 2) n)
    (k9 : y0 = 0 → J l G X Q 2 45 [.ref 58, .int x1] [.int 0] (wr mu 58 0 1) n) :
    J l G X Q 2 6 [.ref 58, .int x1] [.int y0, .ref 58] mu n := by
  refine J_if_ne (tgt := 13) h dX8_roundOf_6 (by decide) (fun q1 => ?_) (fun q1 => ?_)
  · skip
    refine J_aload_n h dX8_roundOf_13 rfl rfl ?_
    refine J_geti (k := 18) h dX8_roundOf_14 jc8 rfl rfl (by decide) w1002 ?_
    refine J_if_ne (tgt := 24) h dX8_roundOf_17 (by decide) (fun q2 => ?_) (fun q2 => ?_)
    · skip
      refine J_iconst h dX8_roundOf_24 ci_0 ?_
      refine J_puti (k := 0) (ty0 := tyX8) h dX8_roundOf_25 jc8 tyX8_ok nmX8 rfl rfl (by decide) rfl rfl rfl w984 ?_
      refine J_aload_n h dX8_roundOf_28 rfl rfl ?_
      refine J_geti (k := 0) h dX8_roundOf_29 jc8 rfl rfl (by decide) w984 ?_
      refine J_if_le (tgt := 39) h dX8_roundOf_32 (by decide) (fun q3 => ?_) (fun q3 => ?_)
      · skip
        refine J_aload_n h dX8_roundOf_39 rfl rfl ?_
        refine J_getr (k := 23) h dX8_roundOf_40 jc8 rfl rfl (by decide) w1007 ?_
        refine J_iload_n h dX8_roundOf_43 rfl rfl ?_
        refine J_iald h dX8_roundOf_44 rfl (s4 q1 q2) ?_
        exact k5 q1 q2
      · skip
        exact absurd (show ¬ (0 : Int32) ≤ (0 : Int32) from q3) (by decide)
    · skip
      refine J_iconst h dX8_roundOf_20 ci_2 ?_
      refine J_goto (tgt := 25) h dX8_roundOf_21 (by decide) ?_
      refine J_puti (k := 0) (ty0 := tyX8) h dX8_roundOf_25 jc8 tyX8_ok nmX8 rfl rfl (by decide) rfl rfl rfl w984 ?_
      refine J_aload_n h dX8_roundOf_28 rfl rfl ?_
      refine J_geti (k := 0) h dX8_roundOf_29 jc8 rfl rfl (by decide) w984 ?_
      refine J_if_le (tgt := 39) h dX8_roundOf_32 (by decide) (fun q6 => ?_) (fun q6 => ?_)
      · skip
        exact absurd (show (2 : Int32) ≤ (0 : Int32) from q6) (by decide)
      · skip
        refine J_iconst h dX8_roundOf_35 ci_0 ?_
        refine J_goto (tgt := 45) h dX8_roundOf_36 (by decide) ?_
        exact k7 q1 q2
  · skip
    refine J_iconst h dX8_roundOf_9 ci_1 ?_
    refine J_goto (tgt := 25) h dX8_roundOf_10 (by decide) ?_
    refine J_puti (k := 0) (ty0 := tyX8) h dX8_roundOf_25 jc8 tyX8_ok nmX8 rfl rfl (by decide) rfl rfl rfl w984 ?_
    refine J_aload_n h dX8_roundOf_28 rfl rfl ?_
    refine J_geti (k := 0) h dX8_roundOf_29 jc8 rfl rfl (by decide) w984 ?_
    refine J_if_le (tgt := 39) h dX8_roundOf_32 (by decide) (fun q8 => ?_) (fun q8 => ?_)
    · skip
      exact absurd (show (1 : Int32) ≤ (0 : Int32) from q8) (by decide)
    · skip
      refine J_iconst h dX8_roundOf_35 ci_0 ?_
      refine J_goto (tgt := 45) h dX8_roundOf_36 (by decide) ?_
      exact k9 q1
/-! LockstepNetModel.value(II)I -/
theorem rX8_value_0 {l : Launch} {G : jG} {X : jX} {Q : State → Prop} {n hg nc : Nat} {ret : Option FieldType} {mu : jM} {x1 : Int32} {x2 : Int32} (h : jOk l G X cX8_value 3 ret RX8 hg nc)
    (k1 : J l G X Q 3 3 [.ref 58, .int x1, .int x2] [.int x1, .ref 58, .ref 58] mu n) :
    J l G X Q 3 0 [.ref 58, .int x1, .int x2] [] mu n := by
  refine J_aload_n h dX8_value_0 rfl rfl ?_
  refine J_aload_n h dX8_value_1 rfl rfl ?_
  refine J_iload_n h dX8_value_2 rfl rfl ?_
  exact k1
theorem rX8_value_3 {l : Launch} {G : jG} {X : jX} {Q : State → Prop} {n hg nc : Nat} {ret : Option FieldType} {mu : jM} {x1 : Int32} {x2 : Int32} {y0 : Int32} {Qc : Int32 → jM → Prop} {h' : Nat} (h : jOk l G X cX8_value 3 ret RX8 hg nc) (hM : jCi l G yX8_isNode cX8_isNode 2 h' (some .boolean) (.ref 58 :: [.int y0]) mu Qc) (hh : h' < hg ∧ 2 ≤ 21) (hn : n ≤ nc)
    (kk : ∀ v mu', Qc v mu' → J l G X Q 3 6 [.ref 58, .int x1, .int x2] (.int v :: [.ref 58]) mu' n) :
    J l G X Q 3 3 [.ref 58, .int x1, .int x2] [.int y0, .ref 58, .ref 58] mu n :=
  J_callVi (As := [.int y0]) (rest := [.ref 58]) h dX8_value_3 hM (jgV w1130 w1132 w31 w84 w1133) rfl (ci := 8) rfl rfl nmX8_isNode rfl hh (Nat.le_of_ble_eq_true rfl) rfl kk hn
theorem rX8_value_6 {l : Launch} {G : jG} {X : jX} {Q : State → Prop} {n hg nc : Nat} {ret : Option FieldType} {mu : jM} {x1 : Int32} {x2 : Int32} {y0 : Int32} (h : jOk l G X cX8_value 3 ret RX8 hg nc)
    (k2 : ¬ y0 = 0 → J l G X Q 3 14 [.ref 58, .int x1, .int x2] [.int x2, .ref 58] mu n)
    (k4 : y0 = 0 → J l G X Q 3 61 [.ref 58, .int x1, .int x2] [.int 0] (wr mu 58 0 1) n) :
    J l G X Q 3 6 [.ref 58, .int x1, .int x2] [.int y0, .ref 58] mu n := by
  refine J_if_ne (tgt := 13) h dX8_value_6 (by decide) (fun q1 => ?_) (fun q1 => ?_)
  · skip
    refine J_iload_n h dX8_value_13 rfl rfl ?_
    exact k2 q1
  · skip
    refine J_iconst h dX8_value_9 ci_1 ?_
    refine J_goto (tgt := 36) h dX8_value_10 (by decide) ?_
    refine J_puti (k := 0) (ty0 := tyX8) h dX8_value_36 jc8 tyX8_ok nmX8 rfl rfl (by decide) rfl rfl rfl w984 ?_
    refine J_aload_n h dX8_value_39 rfl rfl ?_
    refine J_geti (k := 0) h dX8_value_40 jc8 rfl rfl (by decide) w984 ?_
    refine J_if_le (tgt := 50) h dX8_value_43 (by decide) (fun q3 => ?_) (fun q3 => ?_)
    · skip
      exact absurd (show (1 : Int32) ≤ (0 : Int32) from q3) (by decide)
    · skip
      refine J_iconst h dX8_value_46 ci_0 ?_
      refine J_goto (tgt := 61) h dX8_value_47 (by decide) ?_
      exact k4 q1
theorem rX8_value_14 {l : Launch} {G : jG} {X : jX} {Q : State → Prop} {n hg nc : Nat} {ret : Option FieldType} {mu : jM} {x1 : Int32} {x2 : Int32} {y0 : Int32} {Qc : Int32 → jM → Prop} {h' : Nat} (h : jOk l G X cX8_value 3 ret RX8 hg nc) (hM : jCi l G yX8_isRegister cX8_isRegister 1 h' (some .boolean) [.int y0] mu Qc) (hh : h' < hg ∧ 1 ≤ 21) (hn : n ≤ nc)
    (kk : ∀ v mu', Qc v mu' → J l G X Q 3 17 [.ref 58, .int x1, .int x2] (.int v :: [.ref 58]) mu' n) :
    J l G X Q 3 14 [.ref 58, .int x1, .int x2] [.int y0, .ref 58] mu n :=
  J_callSi (As := [.int y0]) (rest := [.ref 58]) h dX8_value_14 hM (jgS w1198 w1199 w84 w1200) nmX8_isRegister rfl hh (Nat.le_of_ble_eq_true rfl) rfl kk hn
theorem rX8_value_17 {l : Launch} {G : jG} {X : jX} {Q : State → Prop} {n hg nc : Nat} {ret : Option FieldType} {mu : jM} {x1 : Int32} {x2 : Int32} {y0 : Int32} (h : jOk l G X cX8_value 3 ret RX8 hg nc) (s4 : ¬ y0 = 0 → ¬ (mu 58 18) = 0 → vp_in ((8 * x1) + x2) 192)
    (k5 : ¬ y0 = 0 → ¬ (mu 58 18) = 0 → J l G X Q 3 61 [.ref 58, .int x1, .int x2] [.int (mu 76 (((8 * x1) + x2)).toNatClampNeg)] (wr mu 58 0 0) n)
    (k7 : ¬ y0 = 0 → (mu 58 18) = 0 → J l G X Q 3 61 [.ref 58, .int x1, .int x2] [.int 0] (wr mu 58 0 3) n)
    (k9 : y0 = 0 → J l G X Q 3 61 [.ref 58, .int x1, .int x2] [.int 0] (wr mu 58 0 2) n) :
    J l G X Q 3 17 [.ref 58, .int x1, .int x2] [.int y0, .ref 58] mu n := by
  refine J_if_ne (tgt := 24) h dX8_value_17 (by decide) (fun q1 => ?_) (fun q1 => ?_)
  · skip
    refine J_aload_n h dX8_value_24 rfl rfl ?_
    refine J_geti (k := 18) h dX8_value_25 jc8 rfl rfl (by decide) w1002 ?_
    refine J_if_ne (tgt := 35) h dX8_value_28 (by decide) (fun q2 => ?_) (fun q2 => ?_)
    · skip
      refine J_iconst h dX8_value_35 ci_0 ?_
      refine J_puti (k := 0) (ty0 := tyX8) h dX8_value_36 jc8 tyX8_ok nmX8 rfl rfl (by decide) rfl rfl rfl w984 ?_
      refine J_aload_n h dX8_value_39 rfl rfl ?_
      refine J_geti (k := 0) h dX8_value_40 jc8 rfl rfl (by decide) w984 ?_
      refine J_if_le (tgt := 50) h dX8_value_43 (by decide) (fun q3 => ?_) (fun q3 => ?_)
      · skip
        refine J_aload_n h dX8_value_50 rfl rfl ?_
        refine J_getr (k := 24) h dX8_value_51 jc8 rfl rfl (by decide) w1008 ?_
        refine J_bipush h dX8_value_54 cb_8 ?_
        refine J_iload_n h dX8_value_56 rfl rfl ?_
        refine J_imul h dX8_value_57 ?_
        refine J_iload_n h dX8_value_58 rfl rfl ?_
        refine J_iadd h dX8_value_59 ?_
        refine J_iald h dX8_value_60 rfl (s4 q1 q2) ?_
        exact k5 q1 q2
      · skip
        exact absurd (show ¬ (0 : Int32) ≤ (0 : Int32) from q3) (by decide)
    · skip
      refine J_iconst h dX8_value_31 ci_3 ?_
      refine J_goto (tgt := 36) h dX8_value_32 (by decide) ?_
      refine J_puti (k := 0) (ty0 := tyX8) h dX8_value_36 jc8 tyX8_ok nmX8 rfl rfl (by decide) rfl rfl rfl w984 ?_
      refine J_aload_n h dX8_value_39 rfl rfl ?_
      refine J_geti (k := 0) h dX8_value_40 jc8 rfl rfl (by decide) w984 ?_
      refine J_if_le (tgt := 50) h dX8_value_43 (by decide) (fun q6 => ?_) (fun q6 => ?_)
      · skip
        exact absurd (show (3 : Int32) ≤ (0 : Int32) from q6) (by decide)
      · skip
        refine J_iconst h dX8_value_46 ci_0 ?_
        refine J_goto (tgt := 61) h dX8_value_47 (by decide) ?_
        exact k7 q1 q2
  · skip
    refine J_iconst h dX8_value_20 ci_2 ?_
    refine J_goto (tgt := 36) h dX8_value_21 (by decide) ?_
    refine J_puti (k := 0) (ty0 := tyX8) h dX8_value_36 jc8 tyX8_ok nmX8 rfl rfl (by decide) rfl rfl rfl w984 ?_
    refine J_aload_n h dX8_value_39 rfl rfl ?_
    refine J_geti (k := 0) h dX8_value_40 jc8 rfl rfl (by decide) w984 ?_
    refine J_if_le (tgt := 50) h dX8_value_43 (by decide) (fun q8 => ?_) (fun q8 => ?_)
    · skip
      exact absurd (show (2 : Int32) ≤ (0 : Int32) from q8) (by decide)
    · skip
      refine J_iconst h dX8_value_46 ci_0 ?_
      refine J_goto (tgt := 61) h dX8_value_47 (by decide) ?_
      exact k9 q1
/-! LockstepNetModel.place(II)I -/
theorem rX8_place_0 {l : Launch} {G : jG} {X : jX} {Q : State → Prop} {n hg nc : Nat} {ret : Option FieldType} {mu : jM} {x1 : Int32} {x2 : Int32} (h : jOk l G X cX8_place 3 ret RX8 hg nc)
    (k1 : J l G X Q 3 3 [.ref 58, .int x1, .int x2] [.int x1, .ref 58, .ref 58] mu n) :
    J l G X Q 3 0 [.ref 58, .int x1, .int x2] [] mu n := by
  refine J_aload_n h dX8_place_0 rfl rfl ?_
  refine J_aload_n h dX8_place_1 rfl rfl ?_
  refine J_iload_n h dX8_place_2 rfl rfl ?_
  exact k1
theorem rX8_place_3 {l : Launch} {G : jG} {X : jX} {Q : State → Prop} {n hg nc : Nat} {ret : Option FieldType} {mu : jM} {x1 : Int32} {x2 : Int32} {y0 : Int32} {Qc : Int32 → jM → Prop} {h' : Nat} (h : jOk l G X cX8_place 3 ret RX8 hg nc) (hM : jCi l G yX8_isNode cX8_isNode 2 h' (some .boolean) (.ref 58 :: [.int y0]) mu Qc) (hh : h' < hg ∧ 2 ≤ 21) (hn : n ≤ nc)
    (kk : ∀ v mu', Qc v mu' → J l G X Q 3 6 [.ref 58, .int x1, .int x2] (.int v :: [.ref 58]) mu' n) :
    J l G X Q 3 3 [.ref 58, .int x1, .int x2] [.int y0, .ref 58, .ref 58] mu n :=
  J_callVi (As := [.int y0]) (rest := [.ref 58]) h dX8_place_3 hM (jgV w1130 w1132 w31 w84 w1133) rfl (ci := 8) rfl rfl nmX8_isNode rfl hh (Nat.le_of_ble_eq_true rfl) rfl kk hn
theorem rX8_place_6 {l : Launch} {G : jG} {X : jX} {Q : State → Prop} {n hg nc : Nat} {ret : Option FieldType} {mu : jM} {x1 : Int32} {x2 : Int32} {y0 : Int32} (h : jOk l G X cX8_place 3 ret RX8 hg nc) (s13 : ¬ y0 = 0 → ¬ x2 < 0 → x2 ≤ 5 → ¬ (mu 58 18) = 0 → 2 ≤ x2 → ¬ x2 = 2 → ¬ x2 = 3 → x2 = 4 → vp_in x1 24) (s15 : ¬ y0 = 0 → ¬ x2 < 0 → x2 ≤ 5 → ¬ (mu 58 18) = 0 → 2 ≤ x2 → ¬ x2 = 2 → x2 = 3 → vp_in x1 24) (s17 : ¬ y0 = 0 → ¬ x2 < 0 → x2 ≤ 5 → ¬ (mu 58 18) = 0 → 2 ≤ x2 → x2 = 2 → vp_in x1 24) (s20 : ¬ y0 = 0 → ¬ x2 < 0 → x2 ≤ 5 → ¬ (mu 58 18) = 0 → ¬ 2 ≤ x2 → ¬ x2 = 0 → vp_in x1 24) (s22 : ¬ y0 = 0 → ¬ x2 < 0 → x2 ≤ 5 → ¬ (mu 58 18) = 0 → ¬ 2 ≤ x2 → x2 = 0 → vp_in x1 24)
    (k4 : ¬ y0 = 0 → x2 < 0 → J l G X Q 3 49 [.ref 58, .int x1, .int x2] [.int 0] (wr mu 58 0 2) n)
    (k12 : ¬ y0 = 0 → ¬ x2 < 0 → x2 ≤ 5 → ¬ (mu 58 18) = 0 → 2 ≤ x2 → ¬ x2 = 2 → ¬ x2 = 3 → ¬ x2 = 4 → J l G X Q 3 119 [.ref 58, .int x1, .int x2] [.int x1, .ref 58] (wr mu 58 0 0) n)
    (k14 : ¬ y0 = 0 → ¬ x2 < 0 → x2 ≤ 5 → ¬ (mu 58 18) = 0 → 2 ≤ x2 → ¬ x2 = 2 → ¬ x2 = 3 → x2 = 4 → J l G X Q 3 122 [.ref 58, .int x1, .int x2] [.int (mu 86 (x1).toNatClampNeg)] (wr mu 58 0 0) n)
    (k16 : ¬ y0 = 0 → ¬ x2 < 0 → x2 ≤ 5 → ¬ (mu 58 18) = 0 → 2 ≤ x2 → ¬ x2 = 2 → x2 = 3 → J l G X Q 3 122 [.ref 58, .int x1, .int x2] [.int (mu 85 (x1).toNatClampNeg)] (wr mu 58 0 0) n)
    (k18 : ¬ y0 = 0 → ¬ x2 < 0 → x2 ≤ 5 → ¬ (mu 58 18) = 0 → 2 ≤ x2 → x2 = 2 → J l G X Q 3 122 [.ref 58, .int x1, .int x2] [.int (mu 84 (x1).toNatClampNeg)] (wr mu 58 0 0) n)
    (k21 : ¬ y0 = 0 → ¬ x2 < 0 → x2 ≤ 5 → ¬ (mu 58 18) = 0 → ¬ 2 ≤ x2 → ¬ x2 = 0 → J l G X Q 3 74 [.ref 58, .int x1, .int x2] [.int (mu 83 (x1).toNatClampNeg)] (wr mu 58 0 0) n)
    (k23 : ¬ y0 = 0 → ¬ x2 < 0 → x2 ≤ 5 → ¬ (mu 58 18) = 0 → ¬ 2 ≤ x2 → x2 = 0 → J l G X Q 3 74 [.ref 58, .int x1, .int x2] [.int (mu 82 (x1).toNatClampNeg)] (wr mu 58 0 0) n)
    (k25 : ¬ y0 = 0 → ¬ x2 < 0 → x2 ≤ 5 → (mu 58 18) = 0 → J l G X Q 3 49 [.ref 58, .int x1, .int x2] [.int 0] (wr mu 58 0 3) n)
    (k27 : ¬ y0 = 0 → ¬ x2 < 0 → ¬ x2 ≤ 5 → J l G X Q 3 49 [.ref 58, .int x1, .int x2] [.int 0] (wr mu 58 0 2) n)
    (k29 : y0 = 0 → J l G X Q 3 49 [.ref 58, .int x1, .int x2] [.int 0] (wr mu 58 0 1) n) :
    J l G X Q 3 6 [.ref 58, .int x1, .int x2] [.int y0, .ref 58] mu n := by
  refine J_if_ne (tgt := 13) h dX8_place_6 (by decide) (fun q1 => ?_) (fun q1 => ?_)
  · skip
    refine J_iload_n h dX8_place_13 rfl rfl ?_
    refine J_if_lt (tgt := 22) h dX8_place_14 (by decide) (fun q2 => ?_) (fun q2 => ?_)
    · skip
      refine J_iconst h dX8_place_22 ci_2 ?_
      refine J_goto (tgt := 38) h dX8_place_23 (by decide) ?_
      refine J_puti (k := 0) (ty0 := tyX8) h dX8_place_38 jc8 tyX8_ok nmX8 rfl rfl (by decide) rfl rfl rfl w984 ?_
      refine J_aload_n h dX8_place_41 rfl rfl ?_
      refine J_geti (k := 0) h dX8_place_42 jc8 rfl rfl (by decide) w984 ?_
      refine J_if_le (tgt := 50) h dX8_place_45 (by decide) (fun q3 => ?_) (fun q3 => ?_)
      · skip
        exact absurd (show (2 : Int32) ≤ (0 : Int32) from q3) (by decide)
      · skip
        refine J_iconst h dX8_place_48 ci_0 ?_
        exact k4 q1 q2
    · skip
      refine J_iload_n h dX8_place_17 rfl rfl ?_
      refine J_iconst h dX8_place_18 ci_5 ?_
      refine J_icmp_le (tgt := 26) h dX8_place_19 (by decide) (fun q5 => ?_) (fun q5 => ?_)
      · skip
        refine J_aload_n h dX8_place_26 rfl rfl ?_
        refine J_geti (k := 18) h dX8_place_27 jc8 rfl rfl (by decide) w1002 ?_
        refine J_if_ne (tgt := 37) h dX8_place_30 (by decide) (fun q6 => ?_) (fun q6 => ?_)
        · skip
          refine J_iconst h dX8_place_37 ci_0 ?_
          refine J_puti (k := 0) (ty0 := tyX8) h dX8_place_38 jc8 tyX8_ok nmX8 rfl rfl (by decide) rfl rfl rfl w984 ?_
          refine J_aload_n h dX8_place_41 rfl rfl ?_
          refine J_geti (k := 0) h dX8_place_42 jc8 rfl rfl (by decide) w984 ?_
          refine J_if_le (tgt := 50) h dX8_place_45 (by decide) (fun q7 => ?_) (fun q7 => ?_)
          · skip
            refine J_iload_n h dX8_place_50 rfl rfl ?_
            refine J_iconst h dX8_place_51 ci_2 ?_
            refine J_icmp_ge (tgt := 75) h dX8_place_52 (by decide) (fun q8 => ?_) (fun q8 => ?_)
            · skip
              refine J_iload_n h dX8_place_75 rfl rfl ?_
              refine J_iconst h dX8_place_76 ci_2 ?_
              refine J_icmp_ne (tgt := 89) h dX8_place_77 (by decide) (fun q9 => ?_) (fun q9 => ?_)
              · skip
                refine J_iload_n h dX8_place_89 rfl rfl ?_
                refine J_iconst h dX8_place_90 ci_3 ?_
                refine J_icmp_ne (tgt := 103) h dX8_place_91 (by decide) (fun q10 => ?_) (fun q10 => ?_)
                · skip
                  refine J_iload_n h dX8_place_103 rfl rfl ?_
                  refine J_iconst h dX8_place_104 ci_4 ?_
                  refine J_icmp_ne (tgt := 117) h dX8_place_105 (by decide) (fun q11 => ?_) (fun q11 => ?_)
                  · skip
                    refine J_aload_n h dX8_place_117 rfl rfl ?_
                    refine J_iload_n h dX8_place_118 rfl rfl ?_
                    exact k12 q1 q2 q5 q6 q8 q9 q10 q11
                  · skip
                    refine J_aload_n h dX8_place_108 rfl rfl ?_
                    refine J_getr (k := 35) h dX8_place_109 jc8 rfl rfl (by decide) w1019 ?_
                    refine J_iload_n h dX8_place_112 rfl rfl ?_
                    refine J_iald h dX8_place_113 rfl (s13 q1 q2 q5 q6 q8 q9 q10 q11) ?_
                    refine J_goto (tgt := 122) h dX8_place_114 (by decide) ?_
                    exact k14 q1 q2 q5 q6 q8 q9 q10 q11
                · skip
                  refine J_aload_n h dX8_place_94 rfl rfl ?_
                  refine J_getr (k := 34) h dX8_place_95 jc8 rfl rfl (by decide) w1018 ?_
                  refine J_iload_n h dX8_place_98 rfl rfl ?_
                  refine J_iald h dX8_place_99 rfl (s15 q1 q2 q5 q6 q8 q9 q10) ?_
                  refine J_goto (tgt := 122) h dX8_place_100 (by decide) ?_
                  exact k16 q1 q2 q5 q6 q8 q9 q10
              · skip
                refine J_aload_n h dX8_place_80 rfl rfl ?_
                refine J_getr (k := 33) h dX8_place_81 jc8 rfl rfl (by decide) w1017 ?_
                refine J_iload_n h dX8_place_84 rfl rfl ?_
                refine J_iald h dX8_place_85 rfl (s17 q1 q2 q5 q6 q8 q9) ?_
                refine J_goto (tgt := 122) h dX8_place_86 (by decide) ?_
                exact k18 q1 q2 q5 q6 q8 q9
            · skip
              refine J_iload_n h dX8_place_55 rfl rfl ?_
              refine J_if_ne (tgt := 68) h dX8_place_56 (by decide) (fun q19 => ?_) (fun q19 => ?_)
              · skip
                refine J_aload_n h dX8_place_68 rfl rfl ?_
                refine J_getr (k := 31) h dX8_place_69 jc8 rfl rfl (by decide) w1015 ?_
                refine J_iload_n h dX8_place_72 rfl rfl ?_
                refine J_iald h dX8_place_73 rfl (s20 q1 q2 q5 q6 q8 q19) ?_
                exact k21 q1 q2 q5 q6 q8 q19
              · skip
                refine J_aload_n h dX8_place_59 rfl rfl ?_
                refine J_getr (k := 30) h dX8_place_60 jc8 rfl rfl (by decide) w1014 ?_
                refine J_iload_n h dX8_place_63 rfl rfl ?_
                refine J_iald h dX8_place_64 rfl (s22 q1 q2 q5 q6 q8 q19) ?_
                refine J_goto (tgt := 74) h dX8_place_65 (by decide) ?_
                exact k23 q1 q2 q5 q6 q8 q19
          · skip
            exact absurd (show ¬ (0 : Int32) ≤ (0 : Int32) from q7) (by decide)
        · skip
          refine J_iconst h dX8_place_33 ci_3 ?_
          refine J_goto (tgt := 38) h dX8_place_34 (by decide) ?_
          refine J_puti (k := 0) (ty0 := tyX8) h dX8_place_38 jc8 tyX8_ok nmX8 rfl rfl (by decide) rfl rfl rfl w984 ?_
          refine J_aload_n h dX8_place_41 rfl rfl ?_
          refine J_geti (k := 0) h dX8_place_42 jc8 rfl rfl (by decide) w984 ?_
          refine J_if_le (tgt := 50) h dX8_place_45 (by decide) (fun q24 => ?_) (fun q24 => ?_)
          · skip
            exact absurd (show (3 : Int32) ≤ (0 : Int32) from q24) (by decide)
          · skip
            refine J_iconst h dX8_place_48 ci_0 ?_
            exact k25 q1 q2 q5 q6
      · skip
        refine J_iconst h dX8_place_22 ci_2 ?_
        refine J_goto (tgt := 38) h dX8_place_23 (by decide) ?_
        refine J_puti (k := 0) (ty0 := tyX8) h dX8_place_38 jc8 tyX8_ok nmX8 rfl rfl (by decide) rfl rfl rfl w984 ?_
        refine J_aload_n h dX8_place_41 rfl rfl ?_
        refine J_geti (k := 0) h dX8_place_42 jc8 rfl rfl (by decide) w984 ?_
        refine J_if_le (tgt := 50) h dX8_place_45 (by decide) (fun q26 => ?_) (fun q26 => ?_)
        · skip
          exact absurd (show (2 : Int32) ≤ (0 : Int32) from q26) (by decide)
        · skip
          refine J_iconst h dX8_place_48 ci_0 ?_
          exact k27 q1 q2 q5
  · skip
    refine J_iconst h dX8_place_9 ci_1 ?_
    refine J_goto (tgt := 38) h dX8_place_10 (by decide) ?_
    refine J_puti (k := 0) (ty0 := tyX8) h dX8_place_38 jc8 tyX8_ok nmX8 rfl rfl (by decide) rfl rfl rfl w984 ?_
    refine J_aload_n h dX8_place_41 rfl rfl ?_
    refine J_geti (k := 0) h dX8_place_42 jc8 rfl rfl (by decide) w984 ?_
    refine J_if_le (tgt := 50) h dX8_place_45 (by decide) (fun q28 => ?_) (fun q28 => ?_)
    · skip
      exact absurd (show (1 : Int32) ≤ (0 : Int32) from q28) (by decide)
    · skip
      refine J_iconst h dX8_place_48 ci_0 ?_
      exact k29 q1
theorem rX8_place_119 {l : Launch} {G : jG} {X : jX} {Q : State → Prop} {n hg nc : Nat} {ret : Option FieldType} {mu : jM} {x1 : Int32} {x2 : Int32} {y0 : Int32} {Qc : Int32 → jM → Prop} {h' : Nat} (h : jOk l G X cX8_place 3 ret RX8 hg nc) (hM : jCi l G yX8_chosenOf cX8_chosenOf 4 h' (some .int) (.ref 58 :: [.int y0]) mu Qc) (hh : h' < hg ∧ 4 ≤ 21) (hn : n ≤ nc)
    (kk : ∀ v mu', Qc v mu' → J l G X Q 3 122 [.ref 58, .int x1, .int x2] (.int v :: []) mu' n) :
    J l G X Q 3 119 [.ref 58, .int x1, .int x2] [.int y0, .ref 58] mu n :=
  J_callVi (As := [.int y0]) (rest := []) h dX8_place_119 hM (jgV w1356 w1358 w73 w84 w1359) rfl (ci := 8) rfl rfl nmX8_chosenOf rfl hh (Nat.le_of_ble_eq_true rfl) rfl kk hn
/-! LockstepNetModel.chosen(II)I -/
theorem rX8_chosen_0 {l : Launch} {G : jG} {X : jX} {Q : State → Prop} {n hg nc : Nat} {ret : Option FieldType} {mu : jM} {x1 : Int32} {x2 : Int32} (h : jOk l G X cX8_chosen 3 ret RX8 hg nc)
    (k3 : (mu 58 18) = 0 → J l G X Q 3 57 [.ref 58, .int x1, .int x2] [.int 0] (wr mu 58 0 1) n)
    (k6 : ¬ (mu 58 18) = 0 → x1 < 0 → J l G X Q 3 57 [.ref 58, .int x1, .int x2] [.int 0] (wr mu 58 0 1) n)
    (k9 : ¬ (mu 58 18) = 0 → ¬ x1 < 0 → (mu 58 32) ≤ x1 → J l G X Q 3 57 [.ref 58, .int x1, .int x2] [.int 0] (wr mu 58 0 1) n)
    (k12 : ¬ (mu 58 18) = 0 → ¬ x1 < 0 → ¬ (mu 58 32) ≤ x1 → x2 < 0 → J l G X Q 3 57 [.ref 58, .int x1, .int x2] [.int 0] (wr mu 58 0 1) n)
    (k15 : ¬ (mu 58 18) = 0 → ¬ x1 < 0 → ¬ (mu 58 32) ≤ x1 → ¬ x2 < 0 → x2 < (mu 58 32) → J l G X Q 3 54 [.ref 58, .int x1, .int x2] [.int x2, .int x1, .ref 58] (wr mu 58 0 0) n)
    (k17 : ¬ (mu 58 18) = 0 → ¬ x1 < 0 → ¬ (mu 58 32) ≤ x1 → ¬ x2 < 0 → ¬ x2 < (mu 58 32) → J l G X Q 3 57 [.ref 58, .int x1, .int x2] [.int 0] (wr mu 58 0 1) n) :
    J l G X Q 3 0 [.ref 58, .int x1, .int x2] [] mu n := by
  refine J_aload_n h dX8_chosen_0 rfl rfl ?_
  refine J_aload_n h dX8_chosen_1 rfl rfl ?_
  refine J_geti (k := 18) h dX8_chosen_2 jc8 rfl rfl (by decide) w1002 ?_
  refine J_if_eq (tgt := 32) h dX8_chosen_5 (by decide) (fun q1 => ?_) (fun q1 => ?_)
  · skip
    refine J_iconst h dX8_chosen_32 ci_1 ?_
    refine J_goto (tgt := 37) h dX8_chosen_33 (by decide) ?_
    refine J_puti (k := 0) (ty0 := tyX8) h dX8_chosen_37 jc8 tyX8_ok nmX8 rfl rfl (by decide) rfl rfl rfl w984 ?_
    refine J_aload_n h dX8_chosen_40 rfl rfl ?_
    refine J_geti (k := 0) h dX8_chosen_41 jc8 rfl rfl (by decide) w984 ?_
    refine J_if_le (tgt := 51) h dX8_chosen_44 (by decide) (fun q2 => ?_) (fun q2 => ?_)
    · skip
      exact absurd (show (1 : Int32) ≤ (0 : Int32) from q2) (by decide)
    · skip
      refine J_iconst h dX8_chosen_47 ci_0 ?_
      refine J_goto (tgt := 57) h dX8_chosen_48 (by decide) ?_
      exact k3 q1
  · skip
    refine J_iload_n h dX8_chosen_8 rfl rfl ?_
    refine J_if_lt (tgt := 32) h dX8_chosen_9 (by decide) (fun q4 => ?_) (fun q4 => ?_)
    · skip
      refine J_iconst h dX8_chosen_32 ci_1 ?_
      refine J_goto (tgt := 37) h dX8_chosen_33 (by decide) ?_
      refine J_puti (k := 0) (ty0 := tyX8) h dX8_chosen_37 jc8 tyX8_ok nmX8 rfl rfl (by decide) rfl rfl rfl w984 ?_
      refine J_aload_n h dX8_chosen_40 rfl rfl ?_
      refine J_geti (k := 0) h dX8_chosen_41 jc8 rfl rfl (by decide) w984 ?_
      refine J_if_le (tgt := 51) h dX8_chosen_44 (by decide) (fun q5 => ?_) (fun q5 => ?_)
      · skip
        exact absurd (show (1 : Int32) ≤ (0 : Int32) from q5) (by decide)
      · skip
        refine J_iconst h dX8_chosen_47 ci_0 ?_
        refine J_goto (tgt := 57) h dX8_chosen_48 (by decide) ?_
        exact k6 q1 q4
    · skip
      refine J_iload_n h dX8_chosen_12 rfl rfl ?_
      refine J_aload_n h dX8_chosen_13 rfl rfl ?_
      refine J_geti (k := 32) h dX8_chosen_14 jc8 rfl rfl (by decide) w1016 ?_
      refine J_icmp_ge (tgt := 32) h dX8_chosen_17 (by decide) (fun q7 => ?_) (fun q7 => ?_)
      · skip
        refine J_iconst h dX8_chosen_32 ci_1 ?_
        refine J_goto (tgt := 37) h dX8_chosen_33 (by decide) ?_
        refine J_puti (k := 0) (ty0 := tyX8) h dX8_chosen_37 jc8 tyX8_ok nmX8 rfl rfl (by decide) rfl rfl rfl w984 ?_
        refine J_aload_n h dX8_chosen_40 rfl rfl ?_
        refine J_geti (k := 0) h dX8_chosen_41 jc8 rfl rfl (by decide) w984 ?_
        refine J_if_le (tgt := 51) h dX8_chosen_44 (by decide) (fun q8 => ?_) (fun q8 => ?_)
        · skip
          exact absurd (show (1 : Int32) ≤ (0 : Int32) from q8) (by decide)
        · skip
          refine J_iconst h dX8_chosen_47 ci_0 ?_
          refine J_goto (tgt := 57) h dX8_chosen_48 (by decide) ?_
          exact k9 q1 q4 q7
      · skip
        refine J_iload_n h dX8_chosen_20 rfl rfl ?_
        refine J_if_lt (tgt := 32) h dX8_chosen_21 (by decide) (fun q10 => ?_) (fun q10 => ?_)
        · skip
          refine J_iconst h dX8_chosen_32 ci_1 ?_
          refine J_goto (tgt := 37) h dX8_chosen_33 (by decide) ?_
          refine J_puti (k := 0) (ty0 := tyX8) h dX8_chosen_37 jc8 tyX8_ok nmX8 rfl rfl (by decide) rfl rfl rfl w984 ?_
          refine J_aload_n h dX8_chosen_40 rfl rfl ?_
          refine J_geti (k := 0) h dX8_chosen_41 jc8 rfl rfl (by decide) w984 ?_
          refine J_if_le (tgt := 51) h dX8_chosen_44 (by decide) (fun q11 => ?_) (fun q11 => ?_)
          · skip
            exact absurd (show (1 : Int32) ≤ (0 : Int32) from q11) (by decide)
          · skip
            refine J_iconst h dX8_chosen_47 ci_0 ?_
            refine J_goto (tgt := 57) h dX8_chosen_48 (by decide) ?_
            exact k12 q1 q4 q7 q10
        · skip
          refine J_iload_n h dX8_chosen_24 rfl rfl ?_
          refine J_aload_n h dX8_chosen_25 rfl rfl ?_
          refine J_geti (k := 32) h dX8_chosen_26 jc8 rfl rfl (by decide) w1016 ?_
          refine J_icmp_lt (tgt := 36) h dX8_chosen_29 (by decide) (fun q13 => ?_) (fun q13 => ?_)
          · skip
            refine J_iconst h dX8_chosen_36 ci_0 ?_
            refine J_puti (k := 0) (ty0 := tyX8) h dX8_chosen_37 jc8 tyX8_ok nmX8 rfl rfl (by decide) rfl rfl rfl w984 ?_
            refine J_aload_n h dX8_chosen_40 rfl rfl ?_
            refine J_geti (k := 0) h dX8_chosen_41 jc8 rfl rfl (by decide) w984 ?_
            refine J_if_le (tgt := 51) h dX8_chosen_44 (by decide) (fun q14 => ?_) (fun q14 => ?_)
            · skip
              refine J_aload_n h dX8_chosen_51 rfl rfl ?_
              refine J_iload_n h dX8_chosen_52 rfl rfl ?_
              refine J_iload_n h dX8_chosen_53 rfl rfl ?_
              exact k15 q1 q4 q7 q10 q13
            · skip
              exact absurd (show ¬ (0 : Int32) ≤ (0 : Int32) from q14) (by decide)
          · skip
            refine J_iconst h dX8_chosen_32 ci_1 ?_
            refine J_goto (tgt := 37) h dX8_chosen_33 (by decide) ?_
            refine J_puti (k := 0) (ty0 := tyX8) h dX8_chosen_37 jc8 tyX8_ok nmX8 rfl rfl (by decide) rfl rfl rfl w984 ?_
            refine J_aload_n h dX8_chosen_40 rfl rfl ?_
            refine J_geti (k := 0) h dX8_chosen_41 jc8 rfl rfl (by decide) w984 ?_
            refine J_if_le (tgt := 51) h dX8_chosen_44 (by decide) (fun q16 => ?_) (fun q16 => ?_)
            · skip
              exact absurd (show (1 : Int32) ≤ (0 : Int32) from q16) (by decide)
            · skip
              refine J_iconst h dX8_chosen_47 ci_0 ?_
              refine J_goto (tgt := 57) h dX8_chosen_48 (by decide) ?_
              exact k17 q1 q4 q7 q10 q13
theorem rX8_chosen_54 {l : Launch} {G : jG} {X : jX} {Q : State → Prop} {n hg nc : Nat} {ret : Option FieldType} {mu : jM} {x1 : Int32} {x2 : Int32} {y0 : Int32} {y1 : Int32} {Qc : Int32 → jM → Prop} {h' : Nat} (h : jOk l G X cX8_chosen 3 ret RX8 hg nc) (hM : jCi l G yX8_chosenLink cX8_chosenLink 7 h' (some .int) (.ref 58 :: [.int y1, .int y0]) mu Qc) (hh : h' < hg ∧ 7 ≤ 21) (hn : n ≤ nc)
    (kk : ∀ v mu', Qc v mu' → J l G X Q 3 57 [.ref 58, .int x1, .int x2] (.int v :: []) mu' n) :
    J l G X Q 3 54 [.ref 58, .int x1, .int x2] [.int y0, .int y1, .ref 58] mu n :=
  J_callVi (As := [.int y1, .int y0]) (rest := []) h dX8_chosen_54 hM (jgV w1277 w1279 w56 w84 w1280) rfl (ci := 8) rfl rfl nmX8_chosenLink rfl hh (Nat.le_of_ble_eq_true rfl) rfl kk hn
/-! LockstepNetModel.count(I)I -/
theorem rX8_count_0 {l : Launch} {G : jG} {X : jX} {Q : State → Prop} {n hg nc : Nat} {ret : Option FieldType} {mu : jM} {x1 : Int32} (h : jOk l G X cX8_count 4 ret RX8 hg nc) (s13 : ¬ (mu 58 18) = 0 → ¬ x1 < 0 → x1 ≤ 6 → ¬ 4 ≤ x1 → ¬ 3 ≤ x1 → vp_in x1 3)
    (k3 : (mu 58 18) = 0 → J l G X Q 4 34 [.ref 58, .int x1, .float 0, .float 0] [.int 0] (wr mu 58 0 1) n)
    (k6 : ¬ (mu 58 18) = 0 → x1 < 0 → J l G X Q 4 34 [.ref 58, .int x1, .float 0, .float 0] [.int 0] (wr mu 58 0 1) n)
    (k10 : ¬ (mu 58 18) = 0 → ¬ x1 < 0 → x1 ≤ 6 → 4 ≤ x1 → J l G X Q 4 63 [.ref 58, .int x1, .int 0, .int 0] [] (wr mu 58 0 0) n)
    (k12 : ¬ (mu 58 18) = 0 → ¬ x1 < 0 → x1 ≤ 6 → ¬ 4 ≤ x1 → 3 ≤ x1 → J l G X Q 4 58 [.ref 58, .int x1, .float 0, .float 0] [.int (mu 58 41)] (wr mu 58 0 0) n)
    (k14 : ¬ (mu 58 18) = 0 → ¬ x1 < 0 → x1 ≤ 6 → ¬ 4 ≤ x1 → ¬ 3 ≤ x1 → J l G X Q 4 58 [.ref 58, .int x1, .float 0, .float 0] [.int (mu 90 (x1).toNatClampNeg)] (wr mu 58 0 0) n)
    (k16 : ¬ (mu 58 18) = 0 → ¬ x1 < 0 → ¬ x1 ≤ 6 → J l G X Q 4 34 [.ref 58, .int x1, .float 0, .float 0] [.int 0] (wr mu 58 0 1) n) :
    J l G X Q 4 0 [.ref 58, .int x1, .float 0, .float 0] [] mu n := by
  refine J_aload_n h dX8_count_0 rfl rfl ?_
  refine J_aload_n h dX8_count_1 rfl rfl ?_
  refine J_geti (k := 18) h dX8_count_2 jc8 rfl rfl (by decide) w1002 ?_
  refine J_if_eq (tgt := 18) h dX8_count_5 (by decide) (fun q1 => ?_) (fun q1 => ?_)
  · skip
    refine J_iconst h dX8_count_18 ci_1 ?_
    refine J_goto (tgt := 23) h dX8_count_19 (by decide) ?_
    refine J_puti (k := 0) (ty0 := tyX8) h dX8_count_23 jc8 tyX8_ok nmX8 rfl rfl (by decide) rfl rfl rfl w984 ?_
    refine J_aload_n h dX8_count_26 rfl rfl ?_
    refine J_geti (k := 0) h dX8_count_27 jc8 rfl rfl (by decide) w984 ?_
    refine J_if_le (tgt := 35) h dX8_count_30 (by decide) (fun q2 => ?_) (fun q2 => ?_)
    · skip
      exact absurd (show (1 : Int32) ≤ (0 : Int32) from q2) (by decide)
    · skip
      refine J_iconst h dX8_count_33 ci_0 ?_
      exact k3 q1
  · skip
    refine J_iload_n h dX8_count_8 rfl rfl ?_
    refine J_if_lt (tgt := 18) h dX8_count_9 (by decide) (fun q4 => ?_) (fun q4 => ?_)
    · skip
      refine J_iconst h dX8_count_18 ci_1 ?_
      refine J_goto (tgt := 23) h dX8_count_19 (by decide) ?_
      refine J_puti (k := 0) (ty0 := tyX8) h dX8_count_23 jc8 tyX8_ok nmX8 rfl rfl (by decide) rfl rfl rfl w984 ?_
      refine J_aload_n h dX8_count_26 rfl rfl ?_
      refine J_geti (k := 0) h dX8_count_27 jc8 rfl rfl (by decide) w984 ?_
      refine J_if_le (tgt := 35) h dX8_count_30 (by decide) (fun q5 => ?_) (fun q5 => ?_)
      · skip
        exact absurd (show (1 : Int32) ≤ (0 : Int32) from q5) (by decide)
      · skip
        refine J_iconst h dX8_count_33 ci_0 ?_
        exact k6 q1 q4
    · skip
      refine J_iload_n h dX8_count_12 rfl rfl ?_
      refine J_bipush h dX8_count_13 cb_6 ?_
      refine J_icmp_le (tgt := 22) h dX8_count_15 (by decide) (fun q7 => ?_) (fun q7 => ?_)
      · skip
        refine J_iconst h dX8_count_22 ci_0 ?_
        refine J_puti (k := 0) (ty0 := tyX8) h dX8_count_23 jc8 tyX8_ok nmX8 rfl rfl (by decide) rfl rfl rfl w984 ?_
        refine J_aload_n h dX8_count_26 rfl rfl ?_
        refine J_geti (k := 0) h dX8_count_27 jc8 rfl rfl (by decide) w984 ?_
        refine J_if_le (tgt := 35) h dX8_count_30 (by decide) (fun q8 => ?_) (fun q8 => ?_)
        · skip
          refine J_iload_n h dX8_count_35 rfl rfl ?_
          refine J_iconst h dX8_count_36 ci_4 ?_
          refine J_icmp_ge (tgt := 59) h dX8_count_37 (by decide) (fun q9 => ?_) (fun q9 => ?_)
          · skip
            refine J_iconst h dX8_count_59 ci_0 ?_
            refine J_istore_n h dX8_count_60 rfl (by decide) rfl ?_
            show J l G X Q 4 61 [.ref 58, .int x1, .int 0, .float 0] [] (wr mu 58 0 0) n
            refine J_iconst h dX8_count_61 ci_0 ?_
            refine J_istore_n h dX8_count_62 rfl (by decide) rfl ?_
            show J l G X Q 4 63 [.ref 58, .int x1, .int 0, .int 0] [] (wr mu 58 0 0) n
            exact k10 q1 q4 q7 q9
          · skip
            refine J_iload_n h dX8_count_40 rfl rfl ?_
            refine J_iconst h dX8_count_41 ci_3 ?_
            refine J_icmp_ge (tgt := 54) h dX8_count_42 (by decide) (fun q11 => ?_) (fun q11 => ?_)
            · skip
              refine J_aload_n h dX8_count_54 rfl rfl ?_
              refine J_geti (k := 41) h dX8_count_55 jc8 rfl rfl (by decide) w1025 ?_
              exact k12 q1 q4 q7 q9 q11
            · skip
              refine J_aload_n h dX8_count_45 rfl rfl ?_
              refine J_getr (k := 40) h dX8_count_46 jc8 rfl rfl (by decide) w1024 ?_
              refine J_iload_n h dX8_count_49 rfl rfl ?_
              refine J_iald h dX8_count_50 rfl (s13 q1 q4 q7 q9 q11) ?_
              refine J_goto (tgt := 58) h dX8_count_51 (by decide) ?_
              exact k14 q1 q4 q7 q9 q11
        · skip
          exact absurd (show ¬ (0 : Int32) ≤ (0 : Int32) from q8) (by decide)
      · skip
        refine J_iconst h dX8_count_18 ci_1 ?_
        refine J_goto (tgt := 23) h dX8_count_19 (by decide) ?_
        refine J_puti (k := 0) (ty0 := tyX8) h dX8_count_23 jc8 tyX8_ok nmX8 rfl rfl (by decide) rfl rfl rfl w984 ?_
        refine J_aload_n h dX8_count_26 rfl rfl ?_
        refine J_geti (k := 0) h dX8_count_27 jc8 rfl rfl (by decide) w984 ?_
        refine J_if_le (tgt := 35) h dX8_count_30 (by decide) (fun q15 => ?_) (fun q15 => ?_)
        · skip
          exact absurd (show (1 : Int32) ≤ (0 : Int32) from q15) (by decide)
        · skip
          refine J_iconst h dX8_count_33 ci_0 ?_
          exact k16 q1 q4 q7
theorem rX8_count_63 {l : Launch} {G : jG} {X : jX} {Q : State → Prop} {n hg nc : Nat} {ret : Option FieldType} {mu : jM} {x1 : Int32} {x2 : Int32} {x3 : Int32} (h : jOk l G X cX8_count 4 ret RX8 hg nc) (s7 : ¬ (mu 58 2) ≤ x3 → vp_in x3 60)
    (k4 : (mu 58 2) ≤ x3 → ¬ x1 = 4 → ¬ x1 = 5 → J l G X Q 4 139 [.ref 58, .int x1, .int x2, .int x3] [.int ((4 * ((mu 58 1) - (mu 58 32))) + (2 * x2))] mu n)
    (k5 : (mu 58 2) ≤ x3 → ¬ x1 = 4 → x1 = 5 → J l G X Q 4 139 [.ref 58, .int x1, .int x2, .int x3] [.int (2 * ((mu 58 1) - 1))] mu n)
    (k6 : (mu 58 2) ≤ x3 → x1 = 4 → J l G X Q 4 139 [.ref 58, .int x1, .int x2, .int x3] [.int (2 * (mu 58 2))] mu n)
    (k9 : ¬ (mu 58 2) ≤ x3 → (mu 87 (x3).toNatClampNeg) = 0 → J l G X Q 4 63 [.ref 58, .int x1, .int (x2 + 0), .int (x3 + 1)] [] mu n)
    (k10 : ¬ (mu 58 2) ≤ x3 → ¬ (mu 87 (x3).toNatClampNeg) = 0 → J l G X Q 4 63 [.ref 58, .int x1, .int (x2 + 1), .int (x3 + 1)] [] mu n) :
    J l G X Q 4 63 [.ref 58, .int x1, .int x2, .int x3] [] mu n := by
  refine J_iload_n h dX8_count_63 rfl rfl ?_
  refine J_aload_n h dX8_count_64 rfl rfl ?_
  refine J_geti (k := 2) h dX8_count_65 jc8 rfl rfl (by decide) w986 ?_
  refine J_icmp_ge (tgt := 94) h dX8_count_68 (by decide) (fun q1 => ?_) (fun q1 => ?_)
  · skip
    refine J_iload_n h dX8_count_94 rfl rfl ?_
    refine J_iconst h dX8_count_95 ci_4 ?_
    refine J_icmp_ne (tgt := 108) h dX8_count_96 (by decide) (fun q2 => ?_) (fun q2 => ?_)
    · skip
      refine J_iload_n h dX8_count_108 rfl rfl ?_
      refine J_iconst h dX8_count_109 ci_5 ?_
      refine J_icmp_ne (tgt := 124) h dX8_count_110 (by decide) (fun q3 => ?_) (fun q3 => ?_)
      · skip
        refine J_iconst h dX8_count_124 ci_4 ?_
        refine J_aload_n h dX8_count_125 rfl rfl ?_
        refine J_geti (k := 1) h dX8_count_126 jc8 rfl rfl (by decide) w985 ?_
        refine J_aload_n h dX8_count_129 rfl rfl ?_
        refine J_geti (k := 32) h dX8_count_130 jc8 rfl rfl (by decide) w1016 ?_
        refine J_isub h dX8_count_133 ?_
        refine J_imul h dX8_count_134 ?_
        refine J_iconst h dX8_count_135 ci_2 ?_
        refine J_iload_n h dX8_count_136 rfl rfl ?_
        refine J_imul h dX8_count_137 ?_
        refine J_iadd h dX8_count_138 ?_
        exact k4 q1 q2 q3
      · skip
        refine J_iconst h dX8_count_113 ci_2 ?_
        refine J_aload_n h dX8_count_114 rfl rfl ?_
        refine J_geti (k := 1) h dX8_count_115 jc8 rfl rfl (by decide) w985 ?_
        refine J_iconst h dX8_count_118 ci_1 ?_
        refine J_isub h dX8_count_119 ?_
        refine J_imul h dX8_count_120 ?_
        refine J_goto (tgt := 139) h dX8_count_121 (by decide) ?_
        exact k5 q1 q2 q3
    · skip
      refine J_iconst h dX8_count_99 ci_2 ?_
      refine J_aload_n h dX8_count_100 rfl rfl ?_
      refine J_geti (k := 2) h dX8_count_101 jc8 rfl rfl (by decide) w986 ?_
      refine J_imul h dX8_count_104 ?_
      refine J_goto (tgt := 139) h dX8_count_105 (by decide) ?_
      exact k6 q1 q2
  · skip
    refine J_iload_n h dX8_count_71 rfl rfl ?_
    refine J_aload_n h dX8_count_72 rfl rfl ?_
    refine J_getr (k := 36) h dX8_count_73 jc8 rfl rfl (by decide) w1020 ?_
    refine J_iload_n h dX8_count_76 rfl rfl ?_
    refine J_zald h dX8_count_77 rfl (s7 q1) ?_
    refine J_if_eq (tgt := 85) h dX8_count_78 (by decide) (fun q8 => ?_) (fun q8 => ?_)
    · skip
      refine J_iconst h dX8_count_85 ci_0 ?_
      refine J_iadd h dX8_count_86 ?_
      refine J_istore_n h dX8_count_87 rfl (by decide) rfl ?_
      show J l G X Q 4 88 [.ref 58, .int x1, .int (x2 + 0), .int x3] [] mu n
      refine J_iinc h dX8_count_88 rfl (cc_1 _) (by decide) rfl ?_
      show J l G X Q 4 91 [.ref 58, .int x1, .int (x2 + 0), .int (x3 + 1)] [] mu n
      refine J_goto (tgt := 63) h dX8_count_91 (by decide) ?_
      exact k9 q1 q8
    · skip
      refine J_iconst h dX8_count_81 ci_1 ?_
      refine J_goto (tgt := 86) h dX8_count_82 (by decide) ?_
      refine J_iadd h dX8_count_86 ?_
      refine J_istore_n h dX8_count_87 rfl (by decide) rfl ?_
      show J l G X Q 4 88 [.ref 58, .int x1, .int (x2 + 1), .int x3] [] mu n
      refine J_iinc h dX8_count_88 rfl (cc_1 _) (by decide) rfl ?_
      show J l G X Q 4 91 [.ref 58, .int x1, .int (x2 + 1), .int (x3 + 1)] [] mu n
      refine J_goto (tgt := 63) h dX8_count_91 (by decide) ?_
      exact k10 q1 q8
