/-! LockstepNetModel.thrown()I -/
theorem rX8_thrown_0 {l : Launch} {G : jG} {X : jX} {Q : State → Prop} {n hg nc : Nat} {ret : Option FieldType} {mu : jM} (h : jOk l G X cX8_thrown 1 ret RX8 hg nc)
    (k1 : J l G X Q 1 4 [.ref 58] [.int (mu 58 0)] mu n) :
    J l G X Q 1 0 [.ref 58] [] mu n := by
  refine J_aload_n h dX8_thrown_0 rfl rfl ?_
  refine J_geti (k := 0) h dX8_thrown_1 jc8 rfl rfl (by decide) w984 ?_
  exact k1
/-! LockstepNetModel.isNode(I)Z -/
theorem rX8_isNode_0 {l : Launch} {G : jG} {X : jX} {Q : State → Prop} {n hg nc : Nat} {ret : Option FieldType} {mu : jM} {x1 : Int32} (h : jOk l G X cX8_isNode 2 ret RX8 hg nc)
    (k2 : x1 < 0 → J l G X Q 2 16 [.ref 58, .int x1] [] mu n)
    (k4 : ¬ x1 < 0 → (mu 58 1) ≤ x1 → J l G X Q 2 16 [.ref 58, .int x1] [] mu n)
    (k5 : ¬ x1 < 0 → ¬ (mu 58 1) ≤ x1 → J l G X Q 2 17 [.ref 58, .int x1] [.int 1] mu n) :
    J l G X Q 2 0 [.ref 58, .int x1] [] mu n := by
  refine J_iload_n h dX8_isNode_0 rfl rfl ?_
  refine J_if_lt (tgt := 16) h dX8_isNode_1 (by decide) (fun q1 => ?_) (fun q1 => ?_)
  · skip
    exact k2 q1
  · skip
    refine J_iload_n h dX8_isNode_4 rfl rfl ?_
    refine J_aload_n h dX8_isNode_5 rfl rfl ?_
    refine J_geti (k := 1) h dX8_isNode_6 jc8 rfl rfl (by decide) w985 ?_
    refine J_icmp_ge (tgt := 16) h dX8_isNode_9 (by decide) (fun q3 => ?_) (fun q3 => ?_)
    · skip
      exact k4 q1 q3
    · skip
      refine J_iconst h dX8_isNode_12 ci_1 ?_
      refine J_goto (tgt := 17) h dX8_isNode_13 (by decide) ?_
      exact k5 q1 q3
theorem rX8_isNode_16 {l : Launch} {G : jG} {X : jX} {Q : State → Prop} {n hg nc : Nat} {ret : Option FieldType} {mu : jM} {x1 : Int32} (h : jOk l G X cX8_isNode 2 ret RX8 hg nc)
    (k1 : J l G X Q 2 17 [.ref 58, .int x1] [.int 0] mu n) :
    J l G X Q 2 16 [.ref 58, .int x1] [] mu n := by
  refine J_iconst h dX8_isNode_16 ci_0 ?_
  exact k1
/-! LockstepNetModel.net(I)V -/
theorem rX8_net_0 {l : Launch} {G : jG} {X : jX} {Q : State → Prop} {n hg nc : Nat} {ret : Option FieldType} {mu : jM} {x1 : Int32} (h : jOk l G X cX8_net 3 ret RX8 hg nc)
    (k3 : x1 < 1 → J l G X Q 3 38 [.ref 58, .int x1, .float 0] [] (wr mu 58 0 1) n)
    (k7 : ¬ x1 < 1 → x1 ≤ 24 → (mu 58 18) = 0 → J l G X Q 3 51 [.ref 58, .int x1, .int 0] [] (wr (wr (wr mu 58 0 0) 58 1 x1) 58 2 0) n)
    (k9 : ¬ x1 < 1 → x1 ≤ 24 → ¬ (mu 58 18) = 0 → J l G X Q 3 38 [.ref 58, .int x1, .float 0] [] (wr mu 58 0 2) n)
    (k11 : ¬ x1 < 1 → ¬ x1 ≤ 24 → J l G X Q 3 38 [.ref 58, .int x1, .float 0] [] (wr mu 58 0 1) n) :
    J l G X Q 3 0 [.ref 58, .int x1, .float 0] [] mu n := by
  refine J_aload_n h dX8_net_0 rfl rfl ?_
  refine J_iload_n h dX8_net_1 rfl rfl ?_
  refine J_iconst h dX8_net_2 ci_1 ?_
  refine J_icmp_lt (tgt := 12) h dX8_net_3 (by decide) (fun q1 => ?_) (fun q1 => ?_)
  · skip
    refine J_iconst h dX8_net_12 ci_1 ?_
    refine J_goto (tgt := 28) h dX8_net_13 (by decide) ?_
    refine J_puti (k := 0) (ty0 := tyX8) h dX8_net_28 jc8 tyX8_ok nmX8 rfl rfl (by decide) rfl rfl rfl w984 ?_
    refine J_aload_n h dX8_net_31 rfl rfl ?_
    refine J_geti (k := 0) h dX8_net_32 jc8 rfl rfl (by decide) w984 ?_
    refine J_if_le (tgt := 39) h dX8_net_35 (by decide) (fun q2 => ?_) (fun q2 => ?_)
    · skip
      exact absurd (show (1 : Int32) ≤ (0 : Int32) from q2) (by decide)
    · skip
      exact k3 q1
  · skip
    refine J_iload_n h dX8_net_6 rfl rfl ?_
    refine J_bipush h dX8_net_7 cb_24 ?_
    refine J_icmp_le (tgt := 16) h dX8_net_9 (by decide) (fun q4 => ?_) (fun q4 => ?_)
    · skip
      refine J_aload_n h dX8_net_16 rfl rfl ?_
      refine J_geti (k := 18) h dX8_net_17 jc8 rfl rfl (by decide) w1002 ?_
      refine J_if_eq (tgt := 27) h dX8_net_20 (by decide) (fun q5 => ?_) (fun q5 => ?_)
      · skip
        refine J_iconst h dX8_net_27 ci_0 ?_
        refine J_puti (k := 0) (ty0 := tyX8) h dX8_net_28 jc8 tyX8_ok nmX8 rfl rfl (by decide) rfl rfl rfl w984 ?_
        refine J_aload_n h dX8_net_31 rfl rfl ?_
        refine J_geti (k := 0) h dX8_net_32 jc8 rfl rfl (by decide) w984 ?_
        refine J_if_le (tgt := 39) h dX8_net_35 (by decide) (fun q6 => ?_) (fun q6 => ?_)
        · skip
          refine J_aload_n h dX8_net_39 rfl rfl ?_
          refine J_iload_n h dX8_net_40 rfl rfl ?_
          refine J_puti (k := 1) (ty0 := tyX8) h dX8_net_41 jc8 tyX8_ok nmX8 rfl rfl (by decide) rfl rfl rfl w985 ?_
          refine J_aload_n h dX8_net_44 rfl rfl ?_
          refine J_iconst h dX8_net_45 ci_0 ?_
          refine J_puti (k := 2) (ty0 := tyX8) h dX8_net_46 jc8 tyX8_ok nmX8 rfl rfl (by decide) rfl rfl rfl w986 ?_
          refine J_iconst h dX8_net_49 ci_0 ?_
          refine J_istore_n h dX8_net_50 rfl (by decide) rfl ?_
          show J l G X Q 3 51 [.ref 58, .int x1, .int 0] [] (wr (wr (wr mu 58 0 0) 58 1 x1) 58 2 0) n
          exact k7 q1 q4 q5
        · skip
          exact absurd (show ¬ (0 : Int32) ≤ (0 : Int32) from q6) (by decide)
      · skip
        refine J_iconst h dX8_net_23 ci_2 ?_
        refine J_goto (tgt := 28) h dX8_net_24 (by decide) ?_
        refine J_puti (k := 0) (ty0 := tyX8) h dX8_net_28 jc8 tyX8_ok nmX8 rfl rfl (by decide) rfl rfl rfl w984 ?_
        refine J_aload_n h dX8_net_31 rfl rfl ?_
        refine J_geti (k := 0) h dX8_net_32 jc8 rfl rfl (by decide) w984 ?_
        refine J_if_le (tgt := 39) h dX8_net_35 (by decide) (fun q8 => ?_) (fun q8 => ?_)
        · skip
          exact absurd (show (2 : Int32) ≤ (0 : Int32) from q8) (by decide)
        · skip
          exact k9 q1 q4 q5
    · skip
      refine J_iconst h dX8_net_12 ci_1 ?_
      refine J_goto (tgt := 28) h dX8_net_13 (by decide) ?_
      refine J_puti (k := 0) (ty0 := tyX8) h dX8_net_28 jc8 tyX8_ok nmX8 rfl rfl (by decide) rfl rfl rfl w984 ?_
      refine J_aload_n h dX8_net_31 rfl rfl ?_
      refine J_geti (k := 0) h dX8_net_32 jc8 rfl rfl (by decide) w984 ?_
      refine J_if_le (tgt := 39) h dX8_net_35 (by decide) (fun q10 => ?_) (fun q10 => ?_)
      · skip
        exact absurd (show (1 : Int32) ≤ (0 : Int32) from q10) (by decide)
      · skip
        exact k11 q1 q4
theorem rX8_net_51 {l : Launch} {G : jG} {X : jX} {Q : State → Prop} {n hg nc : Nat} {ret : Option FieldType} {mu : jM} {x1 : Int32} {x2 : Int32} (h : jOk l G X cX8_net 3 ret RX8 hg nc) (s3 : ¬ 24 ≤ x2 → vp_in x2 24)
    (k2 : 24 ≤ x2 → J l G X Q 3 72 [.ref 58, .int x1, .int 0] [] mu n)
    (k4 : ¬ 24 ≤ x2 → J l G X Q 3 51 [.ref 58, .int x1, .int (x2 + 1)] [] (wr mu 61 (x2).toNatClampNeg 0) n) :
    J l G X Q 3 51 [.ref 58, .int x1, .int x2] [] mu n := by
  refine J_iload_n h dX8_net_51 rfl rfl ?_
  refine J_bipush h dX8_net_52 cb_24 ?_
  refine J_icmp_ge (tgt := 70) h dX8_net_54 (by decide) (fun q1 => ?_) (fun q1 => ?_)
  · skip
    refine J_iconst h dX8_net_70 ci_0 ?_
    refine J_istore_n h dX8_net_71 rfl (by decide) rfl ?_
    show J l G X Q 3 72 [.ref 58, .int x1, .int 0] [] mu n
    exact k2 q1
  · skip
    refine J_aload_n h dX8_net_57 rfl rfl ?_
    refine J_getr (k := 5) h dX8_net_58 jc8 rfl rfl (by decide) w989 ?_
    refine J_iload_n h dX8_net_61 rfl rfl ?_
    refine J_iconst h dX8_net_62 ci_0 ?_
    refine J_iast h dX8_net_63 rfl (s3 q1) ?_
    refine J_iinc h dX8_net_64 rfl (cc_1 _) (by decide) rfl ?_
    show J l G X Q 3 67 [.ref 58, .int x1, .int (x2 + 1)] [] (wr mu 61 (x2).toNatClampNeg 0) n
    refine J_goto (tgt := 51) h dX8_net_67 (by decide) ?_
    exact k4 q1
theorem rX8_net_72 {l : Launch} {G : jG} {X : jX} {Q : State → Prop} {n hg nc : Nat} {ret : Option FieldType} {mu : jM} {x1 : Int32} {x2 : Int32} (h : jOk l G X cX8_net 3 ret RX8 hg nc) (s3 : ¬ 192 ≤ x2 → vp_in x2 192) (s4 : ¬ 192 ≤ x2 → vp_in x2 192)
    (k2 : 192 ≤ x2 → J l G X Q 3 99 [.ref 58, .int x1, .int x2] [] mu n)
    (k5 : ¬ 192 ≤ x2 → J l G X Q 3 72 [.ref 58, .int x1, .int (x2 + 1)] [] (wr (wr mu 63 (x2).toNatClampNeg 0) 64 (x2).toNatClampNeg 0) n) :
    J l G X Q 3 72 [.ref 58, .int x1, .int x2] [] mu n := by
  refine J_iload_n h dX8_net_72 rfl rfl ?_
  refine J_sipush h dX8_net_73 cs_192 ?_
  refine J_icmp_ge (tgt := 99) h dX8_net_76 (by decide) (fun q1 => ?_) (fun q1 => ?_)
  · skip
    exact k2 q1
  · skip
    refine J_aload_n h dX8_net_79 rfl rfl ?_
    refine J_getr (k := 7) h dX8_net_80 jc8 rfl rfl (by decide) w991 ?_
    refine J_iload_n h dX8_net_83 rfl rfl ?_
    refine J_iconst h dX8_net_84 ci_0 ?_
    refine J_iast h dX8_net_85 rfl (s3 q1) ?_
    refine J_aload_n h dX8_net_86 rfl rfl ?_
    refine J_getr (k := 8) h dX8_net_87 jc8 rfl rfl (by decide) w992 ?_
    refine J_iload_n h dX8_net_90 rfl rfl ?_
    refine J_iconst h dX8_net_91 ci_0 ?_
    refine J_iast h dX8_net_92 rfl (s4 q1) ?_
    refine J_iinc h dX8_net_93 rfl (cc_1 _) (by decide) rfl ?_
    show J l G X Q 3 96 [.ref 58, .int x1, .int (x2 + 1)] [] (wr (wr mu 63 (x2).toNatClampNeg 0) 64 (x2).toNatClampNeg 0) n
    refine J_goto (tgt := 72) h dX8_net_96 (by decide) ?_
    exact k5 q1
/-! LockstepNetModel.linkOf(II)I -/
theorem rX8_linkOf_0 {l : Launch} {G : jG} {X : jX} {Q : State → Prop} {n hg nc : Nat} {ret : Option FieldType} {mu : jM} {x1 : Int32} {x2 : Int32} (h : jOk l G X cX8_linkOf 5 ret RX8 hg nc)
    (k1 : J l G X Q 5 5 [.ref 58, .int x1, .int x2, .int (-1), .int 0] [] mu n) :
    J l G X Q 5 0 [.ref 58, .int x1, .int x2, .float 0, .float 0] [] mu n := by
  refine J_iconst h dX8_linkOf_0 ci_m1 ?_
  refine J_istore_n h dX8_linkOf_1 rfl (by decide) rfl ?_
  show J l G X Q 5 2 [.ref 58, .int x1, .int x2, .int (-1), .float 0] [] mu n
  refine J_iconst h dX8_linkOf_2 ci_0 ?_
  refine J_istore h dX8_linkOf_3 (by decide) rfl ?_
  show J l G X Q 5 5 [.ref 58, .int x1, .int x2, .int (-1), .int 0] [] mu n
  exact k1
theorem rX8_linkOf_5 {l : Launch} {G : jG} {X : jX} {Q : State → Prop} {n hg nc : Nat} {ret : Option FieldType} {mu : jM} {x1 : Int32} {x2 : Int32} {x3 : Int32} {x4 : Int32} (h : jOk l G X cX8_linkOf 5 ret RX8 hg nc) (s3 : ¬ (mu 58 2) ≤ x4 → vp_in x4 60) (s6 : ¬ (mu 58 2) ≤ x4 → (mu 59 (x4).toNatClampNeg) = x1 → vp_in x4 60)
    (k2 : (mu 58 2) ≤ x4 → J l G X Q 5 72 [.ref 58, .int x1, .int x2, .int x3, .int x4] [.int x3] mu n)
    (k5 : ¬ (mu 58 2) ≤ x4 → ¬ (mu 59 (x4).toNatClampNeg) = x1 → J l G X Q 5 36 [.ref 58, .int x1, .int x2, .int x3, .int x4] [] mu n)
    (k8 : ¬ (mu 58 2) ≤ x4 → (mu 59 (x4).toNatClampNeg) = x1 → (mu 60 (x4).toNatClampNeg) = x2 → J l G X Q 5 58 [.ref 58, .int x1, .int x2, .int x3, .int x4] [] mu n)
    (k9 : ¬ (mu 58 2) ≤ x4 → (mu 59 (x4).toNatClampNeg) = x1 → ¬ (mu 60 (x4).toNatClampNeg) = x2 → J l G X Q 5 36 [.ref 58, .int x1, .int x2, .int x3, .int x4] [] mu n) :
    J l G X Q 5 5 [.ref 58, .int x1, .int x2, .int x3, .int x4] [] mu n := by
  refine J_iload h dX8_linkOf_5 rfl ?_
  refine J_aload_n h dX8_linkOf_7 rfl rfl ?_
  refine J_geti (k := 2) h dX8_linkOf_8 jc8 rfl rfl (by decide) w986 ?_
  refine J_icmp_ge (tgt := 71) h dX8_linkOf_11 (by decide) (fun q1 => ?_) (fun q1 => ?_)
  · skip
    refine J_iload_n h dX8_linkOf_71 rfl rfl ?_
    exact k2 q1
  · skip
    refine J_aload_n h dX8_linkOf_14 rfl rfl ?_
    refine J_getr (k := 3) h dX8_linkOf_15 jc8 rfl rfl (by decide) w987 ?_
    refine J_iload h dX8_linkOf_18 rfl ?_
    refine J_iald h dX8_linkOf_20 rfl (s3 q1) ?_
    refine J_iload_n h dX8_linkOf_21 rfl rfl ?_
    refine J_icmp_ne (tgt := 36) h dX8_linkOf_22 (by decide) (fun q4 => ?_) (fun q4 => ?_)
    · skip
      exact k5 q1 q4
    · skip
      refine J_aload_n h dX8_linkOf_25 rfl rfl ?_
      refine J_getr (k := 4) h dX8_linkOf_26 jc8 rfl rfl (by decide) w988 ?_
      refine J_iload h dX8_linkOf_29 rfl ?_
      refine J_iald h dX8_linkOf_31 rfl (s6 q1 q4) ?_
      refine J_iload_n h dX8_linkOf_32 rfl rfl ?_
      refine J_icmp_eq (tgt := 58) h dX8_linkOf_33 (by decide) (fun q7 => ?_) (fun q7 => ?_)
      · skip
        exact k8 q1 q4 q7
      · skip
        exact k9 q1 q4 q7
theorem rX8_linkOf_36 {l : Launch} {G : jG} {X : jX} {Q : State → Prop} {n hg nc : Nat} {ret : Option FieldType} {mu : jM} {x1 : Int32} {x2 : Int32} {x3 : Int32} {x4 : Int32} (h : jOk l G X cX8_linkOf 5 ret RX8 hg nc) (s1 : vp_in x4 60) (s4 : (mu 59 (x4).toNatClampNeg) = x2 → vp_in x4 60)
    (k3 : ¬ (mu 59 (x4).toNatClampNeg) = x2 → J l G X Q 5 63 [.ref 58, .int x1, .int x2, .int x3, .int x4] [] mu n)
    (k6 : (mu 59 (x4).toNatClampNeg) = x2 → ¬ (mu 60 (x4).toNatClampNeg) = x1 → J l G X Q 5 63 [.ref 58, .int x1, .int x2, .int x3, .int x4] [] mu n)
    (k7 : (mu 59 (x4).toNatClampNeg) = x2 → (mu 60 (x4).toNatClampNeg) = x1 → J l G X Q 5 58 [.ref 58, .int x1, .int x2, .int x3, .int x4] [] mu n) :
    J l G X Q 5 36 [.ref 58, .int x1, .int x2, .int x3, .int x4] [] mu n := by
  refine J_aload_n h dX8_linkOf_36 rfl rfl ?_
  refine J_getr (k := 3) h dX8_linkOf_37 jc8 rfl rfl (by decide) w987 ?_
  refine J_iload h dX8_linkOf_40 rfl ?_
  refine J_iald h dX8_linkOf_42 rfl (s1) ?_
  refine J_iload_n h dX8_linkOf_43 rfl rfl ?_
  refine J_icmp_ne (tgt := 63) h dX8_linkOf_44 (by decide) (fun q2 => ?_) (fun q2 => ?_)
  · skip
    exact k3 q2
  · skip
    refine J_aload_n h dX8_linkOf_47 rfl rfl ?_
    refine J_getr (k := 4) h dX8_linkOf_48 jc8 rfl rfl (by decide) w988 ?_
    refine J_iload h dX8_linkOf_51 rfl ?_
    refine J_iald h dX8_linkOf_53 rfl (s4 q2) ?_
    refine J_iload_n h dX8_linkOf_54 rfl rfl ?_
    refine J_icmp_ne (tgt := 63) h dX8_linkOf_55 (by decide) (fun q5 => ?_) (fun q5 => ?_)
    · skip
      exact k6 q2 q5
    · skip
      exact k7 q2 q5
theorem rX8_linkOf_58 {l : Launch} {G : jG} {X : jX} {Q : State → Prop} {n hg nc : Nat} {ret : Option FieldType} {mu : jM} {x1 : Int32} {x2 : Int32} {x3 : Int32} {x4 : Int32} (h : jOk l G X cX8_linkOf 5 ret RX8 hg nc)
    (k1 : J l G X Q 5 5 [.ref 58, .int x1, .int x2, .int x4, .int (x4 + 1)] [] mu n) :
    J l G X Q 5 58 [.ref 58, .int x1, .int x2, .int x3, .int x4] [] mu n := by
  refine J_iload h dX8_linkOf_58 rfl ?_
  refine J_goto (tgt := 64) h dX8_linkOf_60 (by decide) ?_
  refine J_istore_n h dX8_linkOf_64 rfl (by decide) rfl ?_
  show J l G X Q 5 65 [.ref 58, .int x1, .int x2, .int x4, .int x4] [] mu n
  refine J_iinc h dX8_linkOf_65 rfl (cc_1 _) (by decide) rfl ?_
  show J l G X Q 5 68 [.ref 58, .int x1, .int x2, .int x4, .int (x4 + 1)] [] mu n
  refine J_goto (tgt := 5) h dX8_linkOf_68 (by decide) ?_
  exact k1
theorem rX8_linkOf_63 {l : Launch} {G : jG} {X : jX} {Q : State → Prop} {n hg nc : Nat} {ret : Option FieldType} {mu : jM} {x1 : Int32} {x2 : Int32} {x3 : Int32} {x4 : Int32} (h : jOk l G X cX8_linkOf 5 ret RX8 hg nc)
    (k1 : J l G X Q 5 5 [.ref 58, .int x1, .int x2, .int x3, .int (x4 + 1)] [] mu n) :
    J l G X Q 5 63 [.ref 58, .int x1, .int x2, .int x3, .int x4] [] mu n := by
  refine J_iload_n h dX8_linkOf_63 rfl rfl ?_
  refine J_istore_n h dX8_linkOf_64 rfl (by decide) rfl ?_
  show J l G X Q 5 65 [.ref 58, .int x1, .int x2, .int x3, .int x4] [] mu n
  refine J_iinc h dX8_linkOf_65 rfl (cc_1 _) (by decide) rfl ?_
  show J l G X Q 5 68 [.ref 58, .int x1, .int x2, .int x3, .int (x4 + 1)] [] mu n
  refine J_goto (tgt := 5) h dX8_linkOf_68 (by decide) ?_
  exact k1
/-! LockstepNetModel.addPort(II)V -/
theorem rX8_addPort_0 {l : Launch} {G : jG} {X : jX} {Q : State → Prop} {n hg nc : Nat} {ret : Option FieldType} {mu : jM} {x1 : Int32} {x2 : Int32} (h : jOk l G X cX8_addPort 3 ret RX8 hg nc) (s1 : vp_in x1 24) (s2 : vp_in ((24 * x1) + (mu 61 (x1).toNatClampNeg)) 576) (s3 : vp_in x1 24) (s4 : vp_in x1 24)
    (k5 : J l G X Q 3 27 [.ref 58, .int x1, .int x2] [] (wr (wr mu 62 (((24 * x1) + (mu 61 (x1).toNatClampNeg))).toNatClampNeg x2) 61 (x1).toNatClampNeg ((mu 61 (x1).toNatClampNeg) + 1)) n) :
    J l G X Q 3 0 [.ref 58, .int x1, .int x2] [] mu n := by
  refine J_aload_n h dX8_addPort_0 rfl rfl ?_
  refine J_getr (k := 6) h dX8_addPort_1 jc8 rfl rfl (by decide) w990 ?_
  refine J_bipush h dX8_addPort_4 cb_24 ?_
  refine J_iload_n h dX8_addPort_6 rfl rfl ?_
  refine J_imul h dX8_addPort_7 ?_
  refine J_aload_n h dX8_addPort_8 rfl rfl ?_
  refine J_getr (k := 5) h dX8_addPort_9 jc8 rfl rfl (by decide) w989 ?_
  refine J_iload_n h dX8_addPort_12 rfl rfl ?_
  refine J_iald h dX8_addPort_13 rfl (s1) ?_
  refine J_iadd h dX8_addPort_14 ?_
  refine J_iload_n h dX8_addPort_15 rfl rfl ?_
  refine J_iast h dX8_addPort_16 rfl (s2) ?_
  refine J_aload_n h dX8_addPort_17 rfl rfl ?_
  refine J_getr (k := 5) h dX8_addPort_18 jc8 rfl rfl (by decide) w989 ?_
  refine J_iload_n h dX8_addPort_21 rfl rfl ?_
  refine J_dup2 h dX8_addPort_22 rfl rfl ?_
  refine J_iald h dX8_addPort_23 rfl (s3) ?_
  refine J_iconst h dX8_addPort_24 ci_1 ?_
  refine J_iadd h dX8_addPort_25 ?_
  refine J_iast h dX8_addPort_26 rfl (s4) ?_
  exact k5
/-! LockstepNetModel.link(II)I -/
theorem rX8_link_0 {l : Launch} {G : jG} {X : jX} {Q : State → Prop} {n hg nc : Nat} {ret : Option FieldType} {mu : jM} {x1 : Int32} {x2 : Int32} (h : jOk l G X cX8_link 3 ret RX8 hg nc)
    (k1 : J l G X Q 3 3 [.ref 58, .int x1, .int x2] [.int x1, .ref 58, .ref 58] mu n) :
    J l G X Q 3 0 [.ref 58, .int x1, .int x2] [] mu n := by
  refine J_aload_n h dX8_link_0 rfl rfl ?_
  refine J_aload_n h dX8_link_1 rfl rfl ?_
  refine J_iload_n h dX8_link_2 rfl rfl ?_
  exact k1
theorem rX8_link_3 {l : Launch} {G : jG} {X : jX} {Q : State → Prop} {n hg nc : Nat} {ret : Option FieldType} {mu : jM} {x1 : Int32} {x2 : Int32} {y0 : Int32} {Qc : Int32 → jM → Prop} {h' : Nat} (h : jOk l G X cX8_link 3 ret RX8 hg nc) (hM : jCi l G yX8_isNode cX8_isNode 2 h' (some .boolean) (.ref 58 :: [.int y0]) mu Qc) (hh : h' < hg ∧ 2 ≤ 21) (hn : n ≤ nc)
    (kk : ∀ v mu', Qc v mu' → J l G X Q 3 6 [.ref 58, .int x1, .int x2] (.int v :: [.ref 58]) mu' n) :
    J l G X Q 3 3 [.ref 58, .int x1, .int x2] [.int y0, .ref 58, .ref 58] mu n :=
  J_callVi (As := [.int y0]) (rest := [.ref 58]) h dX8_link_3 hM (jgV w1130 w1132 w31 w84 w1133) rfl (ci := 8) rfl rfl nmX8_isNode rfl hh (Nat.le_of_ble_eq_true rfl) rfl kk hn
theorem rX8_link_6 {l : Launch} {G : jG} {X : jX} {Q : State → Prop} {n hg nc : Nat} {ret : Option FieldType} {mu : jM} {x1 : Int32} {x2 : Int32} {y0 : Int32} (h : jOk l G X cX8_link 3 ret RX8 hg nc)
    (k3 : y0 = 0 → J l G X Q 3 76 [.ref 58, .int x1, .int x2] [.int 0] (wr mu 58 0 1) n)
    (k4 : ¬ y0 = 0 → J l G X Q 3 11 [.ref 58, .int x1, .int x2] [.int x2, .ref 58, .ref 58] mu n) :
    J l G X Q 3 6 [.ref 58, .int x1, .int x2] [.int y0, .ref 58] mu n := by
  refine J_if_eq (tgt := 17) h dX8_link_6 (by decide) (fun q1 => ?_) (fun q1 => ?_)
  · skip
    refine J_iconst h dX8_link_17 ci_1 ?_
    refine J_goto (tgt := 65) h dX8_link_18 (by decide) ?_
    refine J_puti (k := 0) (ty0 := tyX8) h dX8_link_65 jc8 tyX8_ok nmX8 rfl rfl (by decide) rfl rfl rfl w984 ?_
    refine J_aload_n h dX8_link_68 rfl rfl ?_
    refine J_geti (k := 0) h dX8_link_69 jc8 rfl rfl (by decide) w984 ?_
    refine J_if_le (tgt := 77) h dX8_link_72 (by decide) (fun q2 => ?_) (fun q2 => ?_)
    · skip
      exact absurd (show (1 : Int32) ≤ (0 : Int32) from q2) (by decide)
    · skip
      refine J_iconst h dX8_link_75 ci_0 ?_
      exact k3 q1
  · skip
    refine J_aload_n h dX8_link_9 rfl rfl ?_
    refine J_iload_n h dX8_link_10 rfl rfl ?_
    exact k4 q1
theorem rX8_link_11 {l : Launch} {G : jG} {X : jX} {Q : State → Prop} {n hg nc : Nat} {ret : Option FieldType} {mu : jM} {x1 : Int32} {x2 : Int32} {y0 : Int32} {Qc : Int32 → jM → Prop} {h' : Nat} (h : jOk l G X cX8_link 3 ret RX8 hg nc) (hM : jCi l G yX8_isNode cX8_isNode 2 h' (some .boolean) (.ref 58 :: [.int y0]) mu Qc) (hh : h' < hg ∧ 2 ≤ 21) (hn : n ≤ nc)
    (kk : ∀ v mu', Qc v mu' → J l G X Q 3 14 [.ref 58, .int x1, .int x2] (.int v :: [.ref 58]) mu' n) :
    J l G X Q 3 11 [.ref 58, .int x1, .int x2] [.int y0, .ref 58, .ref 58] mu n :=
  J_callVi (As := [.int y0]) (rest := [.ref 58]) h dX8_link_11 hM (jgV w1130 w1132 w31 w84 w1133) rfl (ci := 8) rfl rfl nmX8_isNode rfl hh (Nat.le_of_ble_eq_true rfl) rfl kk hn
theorem rX8_link_14 {l : Launch} {G : jG} {X : jX} {Q : State → Prop} {n hg nc : Nat} {ret : Option FieldType} {mu : jM} {x1 : Int32} {x2 : Int32} {y0 : Int32} (h : jOk l G X cX8_link 3 ret RX8 hg nc)
    (k5 : ¬ y0 = 0 → ¬ x1 = x2 → ¬ (mu 58 18) = 0 → J l G X Q 3 76 [.ref 58, .int x1, .int x2] [.int 0] (wr mu 58 0 3) n)
    (k6 : ¬ y0 = 0 → ¬ x1 = x2 → (mu 58 18) = 0 → J l G X Q 3 40 [.ref 58, .int x1, .int x2] [.int x2, .int x1, .ref 58, .ref 58] mu n)
    (k8 : ¬ y0 = 0 → x1 = x2 → J l G X Q 3 76 [.ref 58, .int x1, .int x2] [.int 0] (wr mu 58 0 2) n)
    (k10 : y0 = 0 → J l G X Q 3 76 [.ref 58, .int x1, .int x2] [.int 0] (wr mu 58 0 1) n) :
    J l G X Q 3 14 [.ref 58, .int x1, .int x2] [.int y0, .ref 58] mu n := by
  refine J_if_ne (tgt := 21) h dX8_link_14 (by decide) (fun q1 => ?_) (fun q1 => ?_)
  · skip
    refine J_iload_n h dX8_link_21 rfl rfl ?_
    refine J_iload_n h dX8_link_22 rfl rfl ?_
    refine J_icmp_ne (tgt := 30) h dX8_link_23 (by decide) (fun q2 => ?_) (fun q2 => ?_)
    · skip
      refine J_aload_n h dX8_link_30 rfl rfl ?_
      refine J_geti (k := 18) h dX8_link_31 jc8 rfl rfl (by decide) w1002 ?_
      refine J_if_ne (tgt := 47) h dX8_link_34 (by decide) (fun q3 => ?_) (fun q3 => ?_)
      · skip
        refine J_iconst h dX8_link_47 ci_3 ?_
        refine J_goto (tgt := 65) h dX8_link_48 (by decide) ?_
        refine J_puti (k := 0) (ty0 := tyX8) h dX8_link_65 jc8 tyX8_ok nmX8 rfl rfl (by decide) rfl rfl rfl w984 ?_
        refine J_aload_n h dX8_link_68 rfl rfl ?_
        refine J_geti (k := 0) h dX8_link_69 jc8 rfl rfl (by decide) w984 ?_
        refine J_if_le (tgt := 77) h dX8_link_72 (by decide) (fun q4 => ?_) (fun q4 => ?_)
        · skip
          exact absurd (show (3 : Int32) ≤ (0 : Int32) from q4) (by decide)
        · skip
          refine J_iconst h dX8_link_75 ci_0 ?_
          exact k5 q1 q2 q3
      · skip
        refine J_aload_n h dX8_link_37 rfl rfl ?_
        refine J_iload_n h dX8_link_38 rfl rfl ?_
        refine J_iload_n h dX8_link_39 rfl rfl ?_
        exact k6 q1 q2 q3
    · skip
      refine J_iconst h dX8_link_26 ci_2 ?_
      refine J_goto (tgt := 65) h dX8_link_27 (by decide) ?_
      refine J_puti (k := 0) (ty0 := tyX8) h dX8_link_65 jc8 tyX8_ok nmX8 rfl rfl (by decide) rfl rfl rfl w984 ?_
      refine J_aload_n h dX8_link_68 rfl rfl ?_
      refine J_geti (k := 0) h dX8_link_69 jc8 rfl rfl (by decide) w984 ?_
      refine J_if_le (tgt := 77) h dX8_link_72 (by decide) (fun q7 => ?_) (fun q7 => ?_)
      · skip
        exact absurd (show (2 : Int32) ≤ (0 : Int32) from q7) (by decide)
      · skip
        refine J_iconst h dX8_link_75 ci_0 ?_
        exact k8 q1 q2
  · skip
    refine J_iconst h dX8_link_17 ci_1 ?_
    refine J_goto (tgt := 65) h dX8_link_18 (by decide) ?_
    refine J_puti (k := 0) (ty0 := tyX8) h dX8_link_65 jc8 tyX8_ok nmX8 rfl rfl (by decide) rfl rfl rfl w984 ?_
    refine J_aload_n h dX8_link_68 rfl rfl ?_
    refine J_geti (k := 0) h dX8_link_69 jc8 rfl rfl (by decide) w984 ?_
    refine J_if_le (tgt := 77) h dX8_link_72 (by decide) (fun q9 => ?_) (fun q9 => ?_)
    · skip
      exact absurd (show (1 : Int32) ≤ (0 : Int32) from q9) (by decide)
    · skip
      refine J_iconst h dX8_link_75 ci_0 ?_
      exact k10 q1
theorem rX8_link_40 {l : Launch} {G : jG} {X : jX} {Q : State → Prop} {n hg nc : Nat} {ret : Option FieldType} {mu : jM} {x1 : Int32} {x2 : Int32} {y0 : Int32} {y1 : Int32} {Qc : Int32 → jM → Prop} {h' : Nat} (h : jOk l G X cX8_link 3 ret RX8 hg nc) (hM : jCi l G yX8_linkOf cX8_linkOf 5 h' (some .int) (.ref 58 :: [.int y1, .int y0]) mu Qc) (hh : h' < hg ∧ 5 ≤ 21) (hn : n ≤ nc)
    (kk : ∀ v mu', Qc v mu' → J l G X Q 3 43 [.ref 58, .int x1, .int x2] (.int v :: [.ref 58]) mu' n) :
    J l G X Q 3 40 [.ref 58, .int x1, .int x2] [.int y0, .int y1, .ref 58, .ref 58] mu n :=
  J_callVi (As := [.int y1, .int y0]) (rest := [.ref 58]) h dX8_link_40 hM (jgV w1134 w1136 w32 w84 w1137) rfl (ci := 8) rfl rfl nmX8_linkOf rfl hh (Nat.le_of_ble_eq_true rfl) rfl kk hn
theorem rX8_link_43 {l : Launch} {G : jG} {X : jX} {Q : State → Prop} {n hg nc : Nat} {ret : Option FieldType} {mu : jM} {x1 : Int32} {x2 : Int32} {y0 : Int32} (h : jOk l G X cX8_link 3 ret RX8 hg nc) (s4 : y0 = (-1) → ¬ (mu 58 2) = 60 → vp_in (mu 58 2) 60) (s5 : y0 = (-1) → ¬ (mu 58 2) = 60 → vp_in (mu 58 2) 60)
    (k6 : y0 = (-1) → ¬ (mu 58 2) = 60 → J l G X Q 3 103 [.ref 58, .int x1, .int x2] [.int (mu 58 2), .int x1, .ref 58] (wr (wr (wr mu 58 0 0) 59 ((mu 58 2)).toNatClampNeg x1) 60 ((mu 58 2)).toNatClampNeg x2) n)
    (k8 : y0 = (-1) → (mu 58 2) = 60 → J l G X Q 3 76 [.ref 58, .int x1, .int x2] [.int 0] (wr mu 58 0 4) n)
    (k10 : ¬ y0 = (-1) → J l G X Q 3 76 [.ref 58, .int x1, .int x2] [.int 0] (wr mu 58 0 3) n) :
    J l G X Q 3 43 [.ref 58, .int x1, .int x2] [.int y0, .ref 58] mu n := by
  refine J_iconst h dX8_link_43 ci_m1 ?_
  refine J_icmp_eq (tgt := 51) h dX8_link_44 (by decide) (fun q1 => ?_) (fun q1 => ?_)
  · skip
    refine J_aload_n h dX8_link_51 rfl rfl ?_
    refine J_geti (k := 2) h dX8_link_52 jc8 rfl rfl (by decide) w986 ?_
    refine J_bipush h dX8_link_55 cb_60 ?_
    refine J_icmp_ne (tgt := 64) h dX8_link_57 (by decide) (fun q2 => ?_) (fun q2 => ?_)
    · skip
      refine J_iconst h dX8_link_64 ci_0 ?_
      refine J_puti (k := 0) (ty0 := tyX8) h dX8_link_65 jc8 tyX8_ok nmX8 rfl rfl (by decide) rfl rfl rfl w984 ?_
      refine J_aload_n h dX8_link_68 rfl rfl ?_
      refine J_geti (k := 0) h dX8_link_69 jc8 rfl rfl (by decide) w984 ?_
      refine J_if_le (tgt := 77) h dX8_link_72 (by decide) (fun q3 => ?_) (fun q3 => ?_)
      · skip
        refine J_aload_n h dX8_link_77 rfl rfl ?_
        refine J_getr (k := 3) h dX8_link_78 jc8 rfl rfl (by decide) w987 ?_
        refine J_aload_n h dX8_link_81 rfl rfl ?_
        refine J_geti (k := 2) h dX8_link_82 jc8 rfl rfl (by decide) w986 ?_
        refine J_iload_n h dX8_link_85 rfl rfl ?_
        refine J_iast h dX8_link_86 rfl (s4 q1 q2) ?_
        refine J_aload_n h dX8_link_87 rfl rfl ?_
        refine J_getr (k := 4) h dX8_link_88 jc8 rfl rfl (by decide) w988 ?_
        refine J_aload_n h dX8_link_91 rfl rfl ?_
        refine J_geti (k := 2) h dX8_link_92 jc8 rfl rfl (by decide) w986 ?_
        refine J_iload_n h dX8_link_95 rfl rfl ?_
        refine J_iast h dX8_link_96 rfl (s5 q1 q2) ?_
        refine J_aload_n h dX8_link_97 rfl rfl ?_
        refine J_iload_n h dX8_link_98 rfl rfl ?_
        refine J_aload_n h dX8_link_99 rfl rfl ?_
        refine J_geti (k := 2) h dX8_link_100 jc8 rfl rfl (by decide) w986 ?_
        exact k6 q1 q2
      · skip
        exact absurd (show ¬ (0 : Int32) ≤ (0 : Int32) from q3) (by decide)
    · skip
      refine J_iconst h dX8_link_60 ci_4 ?_
      refine J_goto (tgt := 65) h dX8_link_61 (by decide) ?_
      refine J_puti (k := 0) (ty0 := tyX8) h dX8_link_65 jc8 tyX8_ok nmX8 rfl rfl (by decide) rfl rfl rfl w984 ?_
      refine J_aload_n h dX8_link_68 rfl rfl ?_
      refine J_geti (k := 0) h dX8_link_69 jc8 rfl rfl (by decide) w984 ?_
      refine J_if_le (tgt := 77) h dX8_link_72 (by decide) (fun q7 => ?_) (fun q7 => ?_)
      · skip
        exact absurd (show (4 : Int32) ≤ (0 : Int32) from q7) (by decide)
      · skip
        refine J_iconst h dX8_link_75 ci_0 ?_
        exact k8 q1 q2
  · skip
    refine J_iconst h dX8_link_47 ci_3 ?_
    refine J_goto (tgt := 65) h dX8_link_48 (by decide) ?_
    refine J_puti (k := 0) (ty0 := tyX8) h dX8_link_65 jc8 tyX8_ok nmX8 rfl rfl (by decide) rfl rfl rfl w984 ?_
    refine J_aload_n h dX8_link_68 rfl rfl ?_
    refine J_geti (k := 0) h dX8_link_69 jc8 rfl rfl (by decide) w984 ?_
    refine J_if_le (tgt := 77) h dX8_link_72 (by decide) (fun q9 => ?_) (fun q9 => ?_)
    · skip
      exact absurd (show (3 : Int32) ≤ (0 : Int32) from q9) (by decide)
    · skip
      refine J_iconst h dX8_link_75 ci_0 ?_
      exact k10 q1
theorem rX8_link_103 {l : Launch} {G : jG} {X : jX} {Q : State → Prop} {n hg nc : Nat} {ret : Option FieldType} {mu : jM} {x1 : Int32} {x2 : Int32} {y0 : Int32} {y1 : Int32} {Qc : jM → Prop} {h' : Nat} (h : jOk l G X cX8_link 3 ret RX8 hg nc) (hM : jCv l G yX8_addPort cX8_addPort 3 h' (.ref 58 :: [.int y1, .int y0]) mu Qc) (hh : h' < hg ∧ 3 ≤ 21) (hn : n ≤ nc)
    (kk : ∀ mu', Qc mu' → J l G X Q 3 106 [.ref 58, .int x1, .int x2] [] mu' n) :
    J l G X Q 3 103 [.ref 58, .int x1, .int x2] [.int y0, .int y1, .ref 58] mu n :=
  J_callV (As := [.int y1, .int y0]) (rest := []) h dX8_link_103 hM (jgV w1138 w1140 w33 w84 w1141) rfl (ci := 8) rfl rfl nmX8_addPort rfl hh (Nat.le_of_ble_eq_true rfl) rfl kk hn
theorem rX8_link_106 {l : Launch} {G : jG} {X : jX} {Q : State → Prop} {n hg nc : Nat} {ret : Option FieldType} {mu : jM} {x1 : Int32} {x2 : Int32} (h : jOk l G X cX8_link 3 ret RX8 hg nc)
    (k1 : J l G X Q 3 112 [.ref 58, .int x1, .int x2] [.int (mu 58 2), .int x2, .ref 58] mu n) :
    J l G X Q 3 106 [.ref 58, .int x1, .int x2] [] mu n := by
  refine J_aload_n h dX8_link_106 rfl rfl ?_
  refine J_iload_n h dX8_link_107 rfl rfl ?_
  refine J_aload_n h dX8_link_108 rfl rfl ?_
  refine J_geti (k := 2) h dX8_link_109 jc8 rfl rfl (by decide) w986 ?_
  exact k1
theorem rX8_link_112 {l : Launch} {G : jG} {X : jX} {Q : State → Prop} {n hg nc : Nat} {ret : Option FieldType} {mu : jM} {x1 : Int32} {x2 : Int32} {y0 : Int32} {y1 : Int32} {Qc : jM → Prop} {h' : Nat} (h : jOk l G X cX8_link 3 ret RX8 hg nc) (hM : jCv l G yX8_addPort cX8_addPort 3 h' (.ref 58 :: [.int y1, .int y0]) mu Qc) (hh : h' < hg ∧ 3 ≤ 21) (hn : n ≤ nc)
    (kk : ∀ mu', Qc mu' → J l G X Q 3 115 [.ref 58, .int x1, .int x2] [] mu' n) :
    J l G X Q 3 112 [.ref 58, .int x1, .int x2] [.int y0, .int y1, .ref 58] mu n :=
  J_callV (As := [.int y1, .int y0]) (rest := []) h dX8_link_112 hM (jgV w1138 w1140 w33 w84 w1141) rfl (ci := 8) rfl rfl nmX8_addPort rfl hh (Nat.le_of_ble_eq_true rfl) rfl kk hn
theorem rX8_link_115 {l : Launch} {G : jG} {X : jX} {Q : State → Prop} {n hg nc : Nat} {ret : Option FieldType} {mu : jM} {x1 : Int32} {x2 : Int32} (h : jOk l G X cX8_link 3 ret RX8 hg nc)
    (k1 : J l G X Q 3 131 [.ref 58, .int x1, .int x2] [.int (((mu 58 2) + 1) - 1)] (wr mu 58 2 ((mu 58 2) + 1)) n) :
    J l G X Q 3 115 [.ref 58, .int x1, .int x2] [] mu n := by
  refine J_aload_n h dX8_link_115 rfl rfl ?_
  refine J_dup h dX8_link_116 rfl ?_
  refine J_geti (k := 2) h dX8_link_117 jc8 rfl rfl (by decide) w986 ?_
  refine J_iconst h dX8_link_120 ci_1 ?_
  refine J_iadd h dX8_link_121 ?_
  refine J_puti (k := 2) (ty0 := tyX8) h dX8_link_122 jc8 tyX8_ok nmX8 rfl rfl (by decide) rfl rfl rfl w986 ?_
  refine J_aload_n h dX8_link_125 rfl rfl ?_
  refine J_geti (k := 2) h dX8_link_126 jc8 rfl rfl (by decide) w986 ?_
  refine J_iconst h dX8_link_129 ci_1 ?_
  refine J_isub h dX8_link_130 ?_
  exact k1
/-! LockstepNetModel.otherEnd(II)I -/
theorem rX8_otherEnd_0 {l : Launch} {G : jG} {X : jX} {Q : State → Prop} {n hg nc : Nat} {ret : Option FieldType} {mu : jM} {x1 : Int32} {x2 : Int32} (h : jOk l G X cX8_otherEnd 3 ret RX8 hg nc) (s1 : vp_in x1 60) (s3 : ¬ (mu 59 (x1).toNatClampNeg) = x2 → vp_in x1 60) (s5 : (mu 59 (x1).toNatClampNeg) = x2 → vp_in x1 60)
    (k4 : ¬ (mu 59 (x1).toNatClampNeg) = x2 → J l G X Q 3 25 [.ref 58, .int x1, .int x2] [.int (mu 59 (x1).toNatClampNeg)] mu n)
    (k6 : (mu 59 (x1).toNatClampNeg) = x2 → J l G X Q 3 25 [.ref 58, .int x1, .int x2] [.int (mu 60 (x1).toNatClampNeg)] mu n) :
    J l G X Q 3 0 [.ref 58, .int x1, .int x2] [] mu n := by
  refine J_aload_n h dX8_otherEnd_0 rfl rfl ?_
  refine J_getr (k := 3) h dX8_otherEnd_1 jc8 rfl rfl (by decide) w987 ?_
  refine J_iload_n h dX8_otherEnd_4 rfl rfl ?_
  refine J_iald h dX8_otherEnd_5 rfl (s1) ?_
  refine J_iload_n h dX8_otherEnd_6 rfl rfl ?_
  refine J_icmp_ne (tgt := 19) h dX8_otherEnd_7 (by decide) (fun q2 => ?_) (fun q2 => ?_)
  · skip
    refine J_aload_n h dX8_otherEnd_19 rfl rfl ?_
    refine J_getr (k := 3) h dX8_otherEnd_20 jc8 rfl rfl (by decide) w987 ?_
    refine J_iload_n h dX8_otherEnd_23 rfl rfl ?_
    refine J_iald h dX8_otherEnd_24 rfl (s3 q2) ?_
    exact k4 q2
  · skip
    refine J_aload_n h dX8_otherEnd_10 rfl rfl ?_
    refine J_getr (k := 4) h dX8_otherEnd_11 jc8 rfl rfl (by decide) w988 ?_
    refine J_iload_n h dX8_otherEnd_14 rfl rfl ?_
    refine J_iald h dX8_otherEnd_15 rfl (s5 q2) ?_
    refine J_goto (tgt := 25) h dX8_otherEnd_16 (by decide) ?_
    exact k6 q2
/-! LockstepNetModel.towards(II)I -/
theorem rX8_towards_0 {l : Launch} {G : jG} {X : jX} {Q : State → Prop} {n hg nc : Nat} {ret : Option FieldType} {mu : jM} {x1 : Int32} {x2 : Int32} (h : jOk l G X cX8_towards 3 ret RX8 hg nc) (s1 : vp_in x1 60)
    (k3 : ¬ (mu 60 (x1).toNatClampNeg) = x2 → J l G X Q 3 19 [.ref 58, .int x1, .int x2] [.int ((2 * x1) + 1)] mu n)
    (k4 : (mu 60 (x1).toNatClampNeg) = x2 → J l G X Q 3 19 [.ref 58, .int x1, .int x2] [.int ((2 * x1) + 0)] mu n) :
    J l G X Q 3 0 [.ref 58, .int x1, .int x2] [] mu n := by
  refine J_iconst h dX8_towards_0 ci_2 ?_
  refine J_iload_n h dX8_towards_1 rfl rfl ?_
  refine J_imul h dX8_towards_2 ?_
  refine J_aload_n h dX8_towards_3 rfl rfl ?_
  refine J_getr (k := 4) h dX8_towards_4 jc8 rfl rfl (by decide) w988 ?_
  refine J_iload_n h dX8_towards_7 rfl rfl ?_
  refine J_iald h dX8_towards_8 rfl (s1) ?_
  refine J_iload_n h dX8_towards_9 rfl rfl ?_
  refine J_icmp_ne (tgt := 17) h dX8_towards_10 (by decide) (fun q2 => ?_) (fun q2 => ?_)
  · skip
    refine J_iconst h dX8_towards_17 ci_1 ?_
    refine J_iadd h dX8_towards_18 ?_
    exact k3 q2
  · skip
    refine J_iconst h dX8_towards_13 ci_0 ?_
    refine J_goto (tgt := 18) h dX8_towards_14 (by decide) ?_
    refine J_iadd h dX8_towards_18 ?_
    exact k4 q2
/-! LockstepNetModel.word(IIIII)I -/
theorem rX8_word_0 {l : Launch} {G : jG} {X : jX} {Q : State → Prop} {n hg nc : Nat} {ret : Option FieldType} {mu : jM} {x1 : Int32} {x2 : Int32} {x3 : Int32} {x4 : Int32} {x5 : Int32} (h : jOk l G X cX8_word 6 ret RX8 hg nc)
    (k3 : x1 < 0 → J l G X Q 6 50 [.ref 58, .int x1, .int x2, .int x3, .int x4, .int x5] [.int 0] (wr mu 58 0 1) n)
    (k8 : ¬ x1 < 0 → x1 ≤ (mu 58 9) → (mu 58 18) = 0 → ¬ x1 = 64 → J l G X Q 6 59 [.ref 58, .int x1, .int x2, .int x3, .int x4, .int x5] [.int x5, .int x4, .int x3, .int x2, .int x1, .ref 58] (wr mu 58 0 0) n)
    (k10 : ¬ x1 < 0 → x1 ≤ (mu 58 9) → (mu 58 18) = 0 → x1 = 64 → J l G X Q 6 50 [.ref 58, .int x1, .int x2, .int x3, .int x4, .int x5] [.int 0] (wr mu 58 0 3) n)
    (k12 : ¬ x1 < 0 → x1 ≤ (mu 58 9) → ¬ (mu 58 18) = 0 → J l G X Q 6 50 [.ref 58, .int x1, .int x2, .int x3, .int x4, .int x5] [.int 0] (wr mu 58 0 2) n)
    (k14 : ¬ x1 < 0 → ¬ x1 ≤ (mu 58 9) → J l G X Q 6 50 [.ref 58, .int x1, .int x2, .int x3, .int x4, .int x5] [.int 0] (wr mu 58 0 1) n) :
    J l G X Q 6 0 [.ref 58, .int x1, .int x2, .int x3, .int x4, .int x5] [] mu n := by
  refine J_aload_n h dX8_word_0 rfl rfl ?_
  refine J_iload_n h dX8_word_1 rfl rfl ?_
  refine J_if_lt (tgt := 13) h dX8_word_2 (by decide) (fun q1 => ?_) (fun q1 => ?_)
  · skip
    refine J_iconst h dX8_word_13 ci_1 ?_
    refine J_goto (tgt := 39) h dX8_word_14 (by decide) ?_
    refine J_puti (k := 0) (ty0 := tyX8) h dX8_word_39 jc8 tyX8_ok nmX8 rfl rfl (by decide) rfl rfl rfl w984 ?_
    refine J_aload_n h dX8_word_42 rfl rfl ?_
    refine J_geti (k := 0) h dX8_word_43 jc8 rfl rfl (by decide) w984 ?_
    refine J_if_le (tgt := 51) h dX8_word_46 (by decide) (fun q2 => ?_) (fun q2 => ?_)
    · skip
      exact absurd (show (1 : Int32) ≤ (0 : Int32) from q2) (by decide)
    · skip
      refine J_iconst h dX8_word_49 ci_0 ?_
      exact k3 q1
  · skip
    refine J_iload_n h dX8_word_5 rfl rfl ?_
    refine J_aload_n h dX8_word_6 rfl rfl ?_
    refine J_geti (k := 9) h dX8_word_7 jc8 rfl rfl (by decide) w993 ?_
    refine J_icmp_le (tgt := 17) h dX8_word_10 (by decide) (fun q4 => ?_) (fun q4 => ?_)
    · skip
      refine J_aload_n h dX8_word_17 rfl rfl ?_
      refine J_geti (k := 18) h dX8_word_18 jc8 rfl rfl (by decide) w1002 ?_
      refine J_if_eq (tgt := 28) h dX8_word_21 (by decide) (fun q5 => ?_) (fun q5 => ?_)
      · skip
        refine J_iload_n h dX8_word_28 rfl rfl ?_
        refine J_bipush h dX8_word_29 cb_64 ?_
        refine J_icmp_ne (tgt := 38) h dX8_word_31 (by decide) (fun q6 => ?_) (fun q6 => ?_)
        · skip
          refine J_iconst h dX8_word_38 ci_0 ?_
          refine J_puti (k := 0) (ty0 := tyX8) h dX8_word_39 jc8 tyX8_ok nmX8 rfl rfl (by decide) rfl rfl rfl w984 ?_
          refine J_aload_n h dX8_word_42 rfl rfl ?_
          refine J_geti (k := 0) h dX8_word_43 jc8 rfl rfl (by decide) w984 ?_
          refine J_if_le (tgt := 51) h dX8_word_46 (by decide) (fun q7 => ?_) (fun q7 => ?_)
          · skip
            refine J_aload_n h dX8_word_51 rfl rfl ?_
            refine J_iload_n h dX8_word_52 rfl rfl ?_
            refine J_iload_n h dX8_word_53 rfl rfl ?_
            refine J_iload_n h dX8_word_54 rfl rfl ?_
            refine J_iload h dX8_word_55 rfl ?_
            refine J_iload h dX8_word_57 rfl ?_
            exact k8 q1 q4 q5 q6
          · skip
            exact absurd (show ¬ (0 : Int32) ≤ (0 : Int32) from q7) (by decide)
        · skip
          refine J_iconst h dX8_word_34 ci_3 ?_
          refine J_goto (tgt := 39) h dX8_word_35 (by decide) ?_
          refine J_puti (k := 0) (ty0 := tyX8) h dX8_word_39 jc8 tyX8_ok nmX8 rfl rfl (by decide) rfl rfl rfl w984 ?_
          refine J_aload_n h dX8_word_42 rfl rfl ?_
          refine J_geti (k := 0) h dX8_word_43 jc8 rfl rfl (by decide) w984 ?_
          refine J_if_le (tgt := 51) h dX8_word_46 (by decide) (fun q9 => ?_) (fun q9 => ?_)
          · skip
            exact absurd (show (3 : Int32) ≤ (0 : Int32) from q9) (by decide)
          · skip
            refine J_iconst h dX8_word_49 ci_0 ?_
            exact k10 q1 q4 q5 q6
      · skip
        refine J_iconst h dX8_word_24 ci_2 ?_
        refine J_goto (tgt := 39) h dX8_word_25 (by decide) ?_
        refine J_puti (k := 0) (ty0 := tyX8) h dX8_word_39 jc8 tyX8_ok nmX8 rfl rfl (by decide) rfl rfl rfl w984 ?_
        refine J_aload_n h dX8_word_42 rfl rfl ?_
        refine J_geti (k := 0) h dX8_word_43 jc8 rfl rfl (by decide) w984 ?_
        refine J_if_le (tgt := 51) h dX8_word_46 (by decide) (fun q11 => ?_) (fun q11 => ?_)
        · skip
          exact absurd (show (2 : Int32) ≤ (0 : Int32) from q11) (by decide)
        · skip
          refine J_iconst h dX8_word_49 ci_0 ?_
          exact k12 q1 q4 q5
    · skip
      refine J_iconst h dX8_word_13 ci_1 ?_
      refine J_goto (tgt := 39) h dX8_word_14 (by decide) ?_
      refine J_puti (k := 0) (ty0 := tyX8) h dX8_word_39 jc8 tyX8_ok nmX8 rfl rfl (by decide) rfl rfl rfl w984 ?_
      refine J_aload_n h dX8_word_42 rfl rfl ?_
      refine J_geti (k := 0) h dX8_word_43 jc8 rfl rfl (by decide) w984 ?_
      refine J_if_le (tgt := 51) h dX8_word_46 (by decide) (fun q13 => ?_) (fun q13 => ?_)
      · skip
        exact absurd (show (1 : Int32) ≤ (0 : Int32) from q13) (by decide)
      · skip
        refine J_iconst h dX8_word_49 ci_0 ?_
        exact k14 q1 q4
theorem rX8_word_59 {l : Launch} {G : jG} {X : jX} {Q : State → Prop} {n hg nc : Nat} {ret : Option FieldType} {mu : jM} {x1 : Int32} {x2 : Int32} {x3 : Int32} {x4 : Int32} {x5 : Int32} {y0 : Int32} {y1 : Int32} {y2 : Int32} {y3 : Int32} {y4 : Int32} {Qc : jM → Prop} {h' : Nat} (h : jOk l G X cX8_word 6 ret RX8 hg nc) (hM : jCv l G yX8_put cX8_put 6 h' (.ref 58 :: [.int y4, .int y3, .int y2, .int y1, .int y0]) mu Qc) (hh : h' < hg ∧ 6 ≤ 21) (hn : n ≤ nc)
    (kk : ∀ mu', Qc mu' → J l G X Q 6 62 [.ref 58, .int x1, .int x2, .int x3, .int x4, .int x5] [] mu' n) :
    J l G X Q 6 59 [.ref 58, .int x1, .int x2, .int x3, .int x4, .int x5] [.int y0, .int y1, .int y2, .int y3, .int y4, .ref 58] mu n :=
  J_callV (As := [.int y4, .int y3, .int y2, .int y1, .int y0]) (rest := []) h dX8_word_59 hM (jgV w1146 w1148 w34 w84 w1149) rfl (ci := 8) rfl rfl nmX8_put rfl hh (Nat.le_of_ble_eq_true rfl) rfl kk hn
theorem rX8_word_62 {l : Launch} {G : jG} {X : jX} {Q : State → Prop} {n hg nc : Nat} {ret : Option FieldType} {mu : jM} {x1 : Int32} {x2 : Int32} {x3 : Int32} {x4 : Int32} {x5 : Int32} (h : jOk l G X cX8_word 6 ret RX8 hg nc)
    (k2 : ¬ x1 = (mu 58 9) → J l G X Q 6 91 [.ref 58, .int x1, .int x2, .int x3, .int x4, .int x5] [.int (mu 58 9)] (wr mu 58 9 (mu 58 9)) n)
    (k3 : x1 = (mu 58 9) → J l G X Q 6 91 [.ref 58, .int x1, .int x2, .int x3, .int x4, .int x5] [.int ((mu 58 9) + 1)] (wr mu 58 9 ((mu 58 9) + 1)) n) :
    J l G X Q 6 62 [.ref 58, .int x1, .int x2, .int x3, .int x4, .int x5] [] mu n := by
  refine J_aload_n h dX8_word_62 rfl rfl ?_
  refine J_iload_n h dX8_word_63 rfl rfl ?_
  refine J_aload_n h dX8_word_64 rfl rfl ?_
  refine J_geti (k := 9) h dX8_word_65 jc8 rfl rfl (by decide) w993 ?_
  refine J_icmp_ne (tgt := 80) h dX8_word_68 (by decide) (fun q1 => ?_) (fun q1 => ?_)
  · skip
    refine J_aload_n h dX8_word_80 rfl rfl ?_
    refine J_geti (k := 9) h dX8_word_81 jc8 rfl rfl (by decide) w993 ?_
    refine J_puti (k := 9) (ty0 := tyX8) h dX8_word_84 jc8 tyX8_ok nmX8 rfl rfl (by decide) rfl rfl rfl w993 ?_
    refine J_aload_n h dX8_word_87 rfl rfl ?_
    refine J_geti (k := 9) h dX8_word_88 jc8 rfl rfl (by decide) w993 ?_
    exact k2 q1
  · skip
    refine J_aload_n h dX8_word_71 rfl rfl ?_
    refine J_geti (k := 9) h dX8_word_72 jc8 rfl rfl (by decide) w993 ?_
    refine J_iconst h dX8_word_75 ci_1 ?_
    refine J_iadd h dX8_word_76 ?_
    refine J_goto (tgt := 84) h dX8_word_77 (by decide) ?_
    refine J_puti (k := 9) (ty0 := tyX8) h dX8_word_84 jc8 tyX8_ok nmX8 rfl rfl (by decide) rfl rfl rfl w993 ?_
    refine J_aload_n h dX8_word_87 rfl rfl ?_
    refine J_geti (k := 9) h dX8_word_88 jc8 rfl rfl (by decide) w993 ?_
    exact k3 q1
/-! LockstepNetModel.put(IIIII)V -/
theorem rX8_put_0 {l : Launch} {G : jG} {X : jX} {Q : State → Prop} {n hg nc : Nat} {ret : Option FieldType} {mu : jM} {x1 : Int32} {x2 : Int32} {x3 : Int32} {x4 : Int32} {x5 : Int32} (h : jOk l G X cX8_put 6 ret RX8 hg nc) (s1 : vp_in (4 * x1) 256) (s2 : vp_in ((4 * x1) + 1) 256) (s3 : vp_in ((4 * x1) + 2) 256) (s4 : vp_in ((4 * x1) + 3) 256)
    (k5 : J l G X Q 6 44 [.ref 58, .int x1, .int x2, .int x3, .int x4, .int x5] [] (wr (wr (wr (wr mu 65 ((4 * x1)).toNatClampNeg x2) 65 (((4 * x1) + 1)).toNatClampNeg x3) 65 (((4 * x1) + 2)).toNatClampNeg x4) 65 (((4 * x1) + 3)).toNatClampNeg x5) n) :
    J l G X Q 6 0 [.ref 58, .int x1, .int x2, .int x3, .int x4, .int x5] [] mu n := by
  refine J_aload_n h dX8_put_0 rfl rfl ?_
  refine J_getr (k := 10) h dX8_put_1 jc8 rfl rfl (by decide) w994 ?_
  refine J_iconst h dX8_put_4 ci_4 ?_
  refine J_iload_n h dX8_put_5 rfl rfl ?_
  refine J_imul h dX8_put_6 ?_
  refine J_iload_n h dX8_put_7 rfl rfl ?_
  refine J_iast h dX8_put_8 rfl (s1) ?_
  refine J_aload_n h dX8_put_9 rfl rfl ?_
  refine J_getr (k := 10) h dX8_put_10 jc8 rfl rfl (by decide) w994 ?_
  refine J_iconst h dX8_put_13 ci_4 ?_
  refine J_iload_n h dX8_put_14 rfl rfl ?_
  refine J_imul h dX8_put_15 ?_
  refine J_iconst h dX8_put_16 ci_1 ?_
  refine J_iadd h dX8_put_17 ?_
  refine J_iload_n h dX8_put_18 rfl rfl ?_
  refine J_iast h dX8_put_19 rfl (s2) ?_
  refine J_aload_n h dX8_put_20 rfl rfl ?_
  refine J_getr (k := 10) h dX8_put_21 jc8 rfl rfl (by decide) w994 ?_
  refine J_iconst h dX8_put_24 ci_4 ?_
  refine J_iload_n h dX8_put_25 rfl rfl ?_
  refine J_imul h dX8_put_26 ?_
  refine J_iconst h dX8_put_27 ci_2 ?_
  refine J_iadd h dX8_put_28 ?_
  refine J_iload h dX8_put_29 rfl ?_
  refine J_iast h dX8_put_31 rfl (s3) ?_
  refine J_aload_n h dX8_put_32 rfl rfl ?_
  refine J_getr (k := 10) h dX8_put_33 jc8 rfl rfl (by decide) w994 ?_
  refine J_iconst h dX8_put_36 ci_4 ?_
  refine J_iload_n h dX8_put_37 rfl rfl ?_
  refine J_imul h dX8_put_38 ?_
  refine J_iconst h dX8_put_39 ci_3 ?_
  refine J_iadd h dX8_put_40 ?_
  refine J_iload h dX8_put_41 rfl ?_
  refine J_iast h dX8_put_43 rfl (s4) ?_
  exact k5
/-! LockstepNetModel.add(IIII)V -/
theorem rX8_add_0 {l : Launch} {G : jG} {X : jX} {Q : State → Prop} {n hg nc : Nat} {ret : Option FieldType} {mu : jM} {x1 : Int32} {x2 : Int32} {x3 : Int32} {x4 : Int32} (h : jOk l G X cX8_add 5 ret RX8 hg nc)
    (k1 : J l G X Q 5 10 [.ref 58, .int x1, .int x2, .int x3, .int x4] [.int x4, .int x3, .int x2, .int x1, .int (mu 58 9), .ref 58] mu n) :
    J l G X Q 5 0 [.ref 58, .int x1, .int x2, .int x3, .int x4] [] mu n := by
  refine J_aload_n h dX8_add_0 rfl rfl ?_
  refine J_aload_n h dX8_add_1 rfl rfl ?_
  refine J_geti (k := 9) h dX8_add_2 jc8 rfl rfl (by decide) w993 ?_
  refine J_iload_n h dX8_add_5 rfl rfl ?_
  refine J_iload_n h dX8_add_6 rfl rfl ?_
  refine J_iload_n h dX8_add_7 rfl rfl ?_
  refine J_iload h dX8_add_8 rfl ?_
  exact k1
theorem rX8_add_10 {l : Launch} {G : jG} {X : jX} {Q : State → Prop} {n hg nc : Nat} {ret : Option FieldType} {mu : jM} {x1 : Int32} {x2 : Int32} {x3 : Int32} {x4 : Int32} {y0 : Int32} {y1 : Int32} {y2 : Int32} {y3 : Int32} {y4 : Int32} {Qc : jM → Prop} {h' : Nat} (h : jOk l G X cX8_add 5 ret RX8 hg nc) (hM : jCv l G yX8_put cX8_put 6 h' (.ref 58 :: [.int y4, .int y3, .int y2, .int y1, .int y0]) mu Qc) (hh : h' < hg ∧ 6 ≤ 21) (hn : n ≤ nc)
    (kk : ∀ mu', Qc mu' → J l G X Q 5 13 [.ref 58, .int x1, .int x2, .int x3, .int x4] [] mu' n) :
    J l G X Q 5 10 [.ref 58, .int x1, .int x2, .int x3, .int x4] [.int y0, .int y1, .int y2, .int y3, .int y4, .ref 58] mu n :=
  J_callV (As := [.int y4, .int y3, .int y2, .int y1, .int y0]) (rest := []) h dX8_add_10 hM (jgV w1146 w1148 w34 w84 w1149) rfl (ci := 8) rfl rfl nmX8_put rfl hh (Nat.le_of_ble_eq_true rfl) rfl kk hn
theorem rX8_add_13 {l : Launch} {G : jG} {X : jX} {Q : State → Prop} {n hg nc : Nat} {ret : Option FieldType} {mu : jM} {x1 : Int32} {x2 : Int32} {x3 : Int32} {x4 : Int32} (h : jOk l G X cX8_add 5 ret RX8 hg nc)
    (k1 : J l G X Q 5 23 [.ref 58, .int x1, .int x2, .int x3, .int x4] [] (wr mu 58 9 ((mu 58 9) + 1)) n) :
    J l G X Q 5 13 [.ref 58, .int x1, .int x2, .int x3, .int x4] [] mu n := by
  refine J_aload_n h dX8_add_13 rfl rfl ?_
  refine J_dup h dX8_add_14 rfl ?_
  refine J_geti (k := 9) h dX8_add_15 jc8 rfl rfl (by decide) w993 ?_
  refine J_iconst h dX8_add_18 ci_1 ?_
  refine J_iadd h dX8_add_19 ?_
  refine J_puti (k := 9) (ty0 := tyX8) h dX8_add_20 jc8 tyX8_ok nmX8 rfl rfl (by decide) rfl rfl rfl w993 ?_
  exact k1
/-! LockstepNetModel.layers()V -/
theorem rX8_layers_0 {l : Launch} {G : jG} {X : jX} {Q : State → Prop} {n hg nc : Nat} {ret : Option FieldType} {mu : jM} (h : jOk l G X cX8_layers 1 ret RX8 hg nc)
    (k1 : J l G X Q 1 5 [.ref 58] [.int 0, .int 1, .int 3, .int 0, .ref 58] mu n) :
    J l G X Q 1 0 [.ref 58] [] mu n := by
  refine J_aload_n h dX8_layers_0 rfl rfl ?_
  refine J_iconst h dX8_layers_1 ci_0 ?_
  refine J_iconst h dX8_layers_2 ci_3 ?_
  refine J_iconst h dX8_layers_3 ci_1 ?_
  refine J_iconst h dX8_layers_4 ci_0 ?_
  exact k1
theorem rX8_layers_5 {l : Launch} {G : jG} {X : jX} {Q : State → Prop} {n hg nc : Nat} {ret : Option FieldType} {mu : jM} {y0 : Int32} {y1 : Int32} {y2 : Int32} {y3 : Int32} {Qc : jM → Prop} {h' : Nat} (h : jOk l G X cX8_layers 1 ret RX8 hg nc) (hM : jCv l G yX8_add cX8_add 5 h' (.ref 58 :: [.int y3, .int y2, .int y1, .int y0]) mu Qc) (hh : h' < hg ∧ 5 ≤ 21) (hn : n ≤ nc)
    (kk : ∀ mu', Qc mu' → J l G X Q 1 8 [.ref 58] [] mu' n) :
    J l G X Q 1 5 [.ref 58] [.int y0, .int y1, .int y2, .int y3, .ref 58] mu n :=
  J_callV (As := [.int y3, .int y2, .int y1, .int y0]) (rest := []) h dX8_layers_5 hM (jgV w1158 w1160 w36 w84 w1161) rfl (ci := 8) rfl rfl nmX8_add rfl hh (Nat.le_of_ble_eq_true rfl) rfl kk hn
theorem rX8_layers_8 {l : Launch} {G : jG} {X : jX} {Q : State → Prop} {n hg nc : Nat} {ret : Option FieldType} {mu : jM} (h : jOk l G X cX8_layers 1 ret RX8 hg nc)
    (k1 : J l G X Q 1 14 [.ref 58] [.int 3, .int 0, .int 2, .int 8, .ref 58] mu n) :
    J l G X Q 1 8 [.ref 58] [] mu n := by
  refine J_aload_n h dX8_layers_8 rfl rfl ?_
  refine J_bipush h dX8_layers_9 cb_8 ?_
  refine J_iconst h dX8_layers_11 ci_2 ?_
  refine J_iconst h dX8_layers_12 ci_0 ?_
  refine J_iconst h dX8_layers_13 ci_3 ?_
  exact k1
theorem rX8_layers_14 {l : Launch} {G : jG} {X : jX} {Q : State → Prop} {n hg nc : Nat} {ret : Option FieldType} {mu : jM} {y0 : Int32} {y1 : Int32} {y2 : Int32} {y3 : Int32} {Qc : jM → Prop} {h' : Nat} (h : jOk l G X cX8_layers 1 ret RX8 hg nc) (hM : jCv l G yX8_add cX8_add 5 h' (.ref 58 :: [.int y3, .int y2, .int y1, .int y0]) mu Qc) (hh : h' < hg ∧ 5 ≤ 21) (hn : n ≤ nc)
    (kk : ∀ mu', Qc mu' → J l G X Q 1 17 [.ref 58] [] mu' n) :
    J l G X Q 1 14 [.ref 58] [.int y0, .int y1, .int y2, .int y3, .ref 58] mu n :=
  J_callV (As := [.int y3, .int y2, .int y1, .int y0]) (rest := []) h dX8_layers_14 hM (jgV w1158 w1160 w36 w84 w1161) rfl (ci := 8) rfl rfl nmX8_add rfl hh (Nat.le_of_ble_eq_true rfl) rfl kk hn
theorem rX8_layers_17 {l : Launch} {G : jG} {X : jX} {Q : State → Prop} {n hg nc : Nat} {ret : Option FieldType} {mu : jM} (h : jOk l G X cX8_layers 1 ret RX8 hg nc)
    (k1 : J l G X Q 1 23 [.ref 58] [.int 0, .int 4, .int 2, .int 14, .ref 58] mu n) :
    J l G X Q 1 17 [.ref 58] [] mu n := by
  refine J_aload_n h dX8_layers_17 rfl rfl ?_
  refine J_bipush h dX8_layers_18 cb_14 ?_
  refine J_iconst h dX8_layers_20 ci_2 ?_
  refine J_iconst h dX8_layers_21 ci_4 ?_
  refine J_iconst h dX8_layers_22 ci_0 ?_
  exact k1
theorem rX8_layers_23 {l : Launch} {G : jG} {X : jX} {Q : State → Prop} {n hg nc : Nat} {ret : Option FieldType} {mu : jM} {y0 : Int32} {y1 : Int32} {y2 : Int32} {y3 : Int32} {Qc : jM → Prop} {h' : Nat} (h : jOk l G X cX8_layers 1 ret RX8 hg nc) (hM : jCv l G yX8_add cX8_add 5 h' (.ref 58 :: [.int y3, .int y2, .int y1, .int y0]) mu Qc) (hh : h' < hg ∧ 5 ≤ 21) (hn : n ≤ nc)
    (kk : ∀ mu', Qc mu' → J l G X Q 1 26 [.ref 58] [] mu' n) :
    J l G X Q 1 23 [.ref 58] [.int y0, .int y1, .int y2, .int y3, .ref 58] mu n :=
  J_callV (As := [.int y3, .int y2, .int y1, .int y0]) (rest := []) h dX8_layers_23 hM (jgV w1158 w1160 w36 w84 w1161) rfl (ci := 8) rfl rfl nmX8_add rfl hh (Nat.le_of_ble_eq_true rfl) rfl kk hn
theorem rX8_layers_26 {l : Launch} {G : jG} {X : jX} {Q : State → Prop} {n hg nc : Nat} {ret : Option FieldType} {mu : jM} (h : jOk l G X cX8_layers 1 ret RX8 hg nc)
    (k1 : J l G X Q 1 32 [.ref 58] [.int 0, .int 1, .int 4, .int 15, .ref 58] mu n) :
    J l G X Q 1 26 [.ref 58] [] mu n := by
  refine J_aload_n h dX8_layers_26 rfl rfl ?_
  refine J_bipush h dX8_layers_27 cb_15 ?_
  refine J_iconst h dX8_layers_29 ci_4 ?_
  refine J_iconst h dX8_layers_30 ci_1 ?_
  refine J_iconst h dX8_layers_31 ci_0 ?_
  exact k1
theorem rX8_layers_32 {l : Launch} {G : jG} {X : jX} {Q : State → Prop} {n hg nc : Nat} {ret : Option FieldType} {mu : jM} {y0 : Int32} {y1 : Int32} {y2 : Int32} {y3 : Int32} {Qc : jM → Prop} {h' : Nat} (h : jOk l G X cX8_layers 1 ret RX8 hg nc) (hM : jCv l G yX8_add cX8_add 5 h' (.ref 58 :: [.int y3, .int y2, .int y1, .int y0]) mu Qc) (hh : h' < hg ∧ 5 ≤ 21) (hn : n ≤ nc)
    (kk : ∀ mu', Qc mu' → J l G X Q 1 35 [.ref 58] [] mu' n) :
    J l G X Q 1 32 [.ref 58] [.int y0, .int y1, .int y2, .int y3, .ref 58] mu n :=
  J_callV (As := [.int y3, .int y2, .int y1, .int y0]) (rest := []) h dX8_layers_32 hM (jgV w1158 w1160 w36 w84 w1161) rfl (ci := 8) rfl rfl nmX8_add rfl hh (Nat.le_of_ble_eq_true rfl) rfl kk hn
theorem rX8_layers_35 {l : Launch} {G : jG} {X : jX} {Q : State → Prop} {n hg nc : Nat} {ret : Option FieldType} {mu : jM} (h : jOk l G X cX8_layers 1 ret RX8 hg nc)
    (k1 : J l G X Q 1 41 [.ref 58] [.int 0, .int 0, .int 3, .int 18, .ref 58] mu n) :
    J l G X Q 1 35 [.ref 58] [] mu n := by
  refine J_aload_n h dX8_layers_35 rfl rfl ?_
  refine J_bipush h dX8_layers_36 cb_18 ?_
  refine J_iconst h dX8_layers_38 ci_3 ?_
  refine J_iconst h dX8_layers_39 ci_0 ?_
  refine J_iconst h dX8_layers_40 ci_0 ?_
  exact k1
theorem rX8_layers_41 {l : Launch} {G : jG} {X : jX} {Q : State → Prop} {n hg nc : Nat} {ret : Option FieldType} {mu : jM} {y0 : Int32} {y1 : Int32} {y2 : Int32} {y3 : Int32} {Qc : jM → Prop} {h' : Nat} (h : jOk l G X cX8_layers 1 ret RX8 hg nc) (hM : jCv l G yX8_add cX8_add 5 h' (.ref 58 :: [.int y3, .int y2, .int y1, .int y0]) mu Qc) (hh : h' < hg ∧ 5 ≤ 21) (hn : n ≤ nc)
    (kk : ∀ mu', Qc mu' → J l G X Q 1 44 [.ref 58] [] mu' n) :
    J l G X Q 1 41 [.ref 58] [.int y0, .int y1, .int y2, .int y3, .ref 58] mu n :=
  J_callV (As := [.int y3, .int y2, .int y1, .int y0]) (rest := []) h dX8_layers_41 hM (jgV w1158 w1160 w36 w84 w1161) rfl (ci := 8) rfl rfl nmX8_add rfl hh (Nat.le_of_ble_eq_true rfl) rfl kk hn
theorem rX8_layers_44 {l : Launch} {G : jG} {X : jX} {Q : State → Prop} {n hg nc : Nat} {ret : Option FieldType} {mu : jM} (h : jOk l G X cX8_layers 1 ret RX8 hg nc)
    (k1 : J l G X Q 1 49 [.ref 58] [.int 0, .int 2, .int 0, .int 0, .ref 58] mu n) :
    J l G X Q 1 44 [.ref 58] [] mu n := by
  refine J_aload_n h dX8_layers_44 rfl rfl ?_
  refine J_iconst h dX8_layers_45 ci_0 ?_
  refine J_iconst h dX8_layers_46 ci_0 ?_
  refine J_iconst h dX8_layers_47 ci_2 ?_
  refine J_iconst h dX8_layers_48 ci_0 ?_
  exact k1
theorem rX8_layers_49 {l : Launch} {G : jG} {X : jX} {Q : State → Prop} {n hg nc : Nat} {ret : Option FieldType} {mu : jM} {y0 : Int32} {y1 : Int32} {y2 : Int32} {y3 : Int32} {Qc : jM → Prop} {h' : Nat} (h : jOk l G X cX8_layers 1 ret RX8 hg nc) (hM : jCv l G yX8_add cX8_add 5 h' (.ref 58 :: [.int y3, .int y2, .int y1, .int y0]) mu Qc) (hh : h' < hg ∧ 5 ≤ 21) (hn : n ≤ nc)
    (kk : ∀ mu', Qc mu' → J l G X Q 1 52 [.ref 58] [] mu' n) :
    J l G X Q 1 49 [.ref 58] [.int y0, .int y1, .int y2, .int y3, .ref 58] mu n :=
  J_callV (As := [.int y3, .int y2, .int y1, .int y0]) (rest := []) h dX8_layers_49 hM (jgV w1158 w1160 w36 w84 w1161) rfl (ci := 8) rfl rfl nmX8_add rfl hh (Nat.le_of_ble_eq_true rfl) rfl kk hn
theorem rX8_layers_52 {l : Launch} {G : jG} {X : jX} {Q : State → Prop} {n hg nc : Nat} {ret : Option FieldType} {mu : jM} (h : jOk l G X cX8_layers 1 ret RX8 hg nc)
    (k1 : J l G X Q 1 57 [.ref 58] [.int 0, .int 0, .int 2, .int 0, .ref 58] mu n) :
    J l G X Q 1 52 [.ref 58] [] mu n := by
  refine J_aload_n h dX8_layers_52 rfl rfl ?_
  refine J_iconst h dX8_layers_53 ci_0 ?_
  refine J_iconst h dX8_layers_54 ci_2 ?_
  refine J_iconst h dX8_layers_55 ci_0 ?_
  refine J_iconst h dX8_layers_56 ci_0 ?_
  exact k1
theorem rX8_layers_57 {l : Launch} {G : jG} {X : jX} {Q : State → Prop} {n hg nc : Nat} {ret : Option FieldType} {mu : jM} {y0 : Int32} {y1 : Int32} {y2 : Int32} {y3 : Int32} {Qc : jM → Prop} {h' : Nat} (h : jOk l G X cX8_layers 1 ret RX8 hg nc) (hM : jCv l G yX8_add cX8_add 5 h' (.ref 58 :: [.int y3, .int y2, .int y1, .int y0]) mu Qc) (hh : h' < hg ∧ 5 ≤ 21) (hn : n ≤ nc)
    (kk : ∀ mu', Qc mu' → J l G X Q 1 60 [.ref 58] [] mu' n) :
    J l G X Q 1 57 [.ref 58] [.int y0, .int y1, .int y2, .int y3, .ref 58] mu n :=
  J_callV (As := [.int y3, .int y2, .int y1, .int y0]) (rest := []) h dX8_layers_57 hM (jgV w1158 w1160 w36 w84 w1161) rfl (ci := 8) rfl rfl nmX8_add rfl hh (Nat.le_of_ble_eq_true rfl) rfl kk hn
theorem rX8_layers_60 {l : Launch} {G : jG} {X : jX} {Q : State → Prop} {n hg nc : Nat} {ret : Option FieldType} {mu : jM} (h : jOk l G X cX8_layers 1 ret RX8 hg nc)
    (k1 : J l G X Q 1 66 [.ref 58] [.int 2, .int 0, .int 2, .int 8, .ref 58] mu n) :
    J l G X Q 1 60 [.ref 58] [] mu n := by
  refine J_aload_n h dX8_layers_60 rfl rfl ?_
  refine J_bipush h dX8_layers_61 cb_8 ?_
  refine J_iconst h dX8_layers_63 ci_2 ?_
  refine J_iconst h dX8_layers_64 ci_0 ?_
  refine J_iconst h dX8_layers_65 ci_2 ?_
  exact k1
theorem rX8_layers_66 {l : Launch} {G : jG} {X : jX} {Q : State → Prop} {n hg nc : Nat} {ret : Option FieldType} {mu : jM} {y0 : Int32} {y1 : Int32} {y2 : Int32} {y3 : Int32} {Qc : jM → Prop} {h' : Nat} (h : jOk l G X cX8_layers 1 ret RX8 hg nc) (hM : jCv l G yX8_add cX8_add 5 h' (.ref 58 :: [.int y3, .int y2, .int y1, .int y0]) mu Qc) (hh : h' < hg ∧ 5 ≤ 21) (hn : n ≤ nc)
    (kk : ∀ mu', Qc mu' → J l G X Q 1 69 [.ref 58] [] mu' n) :
    J l G X Q 1 66 [.ref 58] [.int y0, .int y1, .int y2, .int y3, .ref 58] mu n :=
  J_callV (As := [.int y3, .int y2, .int y1, .int y0]) (rest := []) h dX8_layers_66 hM (jgV w1158 w1160 w36 w84 w1161) rfl (ci := 8) rfl rfl nmX8_add rfl hh (Nat.le_of_ble_eq_true rfl) rfl kk hn
theorem rX8_layers_69 {l : Launch} {G : jG} {X : jX} {Q : State → Prop} {n hg nc : Nat} {ret : Option FieldType} {mu : jM} (h : jOk l G X cX8_layers 1 ret RX8 hg nc)
    (k1 : J l G X Q 1 76 [.ref 58] [.int 0, .int 6, .int 2, .int 14, .ref 58] mu n) :
    J l G X Q 1 69 [.ref 58] [] mu n := by
  refine J_aload_n h dX8_layers_69 rfl rfl ?_
  refine J_bipush h dX8_layers_70 cb_14 ?_
  refine J_iconst h dX8_layers_72 ci_2 ?_
  refine J_bipush h dX8_layers_73 cb_6 ?_
  refine J_iconst h dX8_layers_75 ci_0 ?_
  exact k1
theorem rX8_layers_76 {l : Launch} {G : jG} {X : jX} {Q : State → Prop} {n hg nc : Nat} {ret : Option FieldType} {mu : jM} {y0 : Int32} {y1 : Int32} {y2 : Int32} {y3 : Int32} {Qc : jM → Prop} {h' : Nat} (h : jOk l G X cX8_layers 1 ret RX8 hg nc) (hM : jCv l G yX8_add cX8_add 5 h' (.ref 58 :: [.int y3, .int y2, .int y1, .int y0]) mu Qc) (hh : h' < hg ∧ 5 ≤ 21) (hn : n ≤ nc)
    (kk : ∀ mu', Qc mu' → J l G X Q 1 79 [.ref 58] [] mu' n) :
    J l G X Q 1 76 [.ref 58] [.int y0, .int y1, .int y2, .int y3, .ref 58] mu n :=
  J_callV (As := [.int y3, .int y2, .int y1, .int y0]) (rest := []) h dX8_layers_76 hM (jgV w1158 w1160 w36 w84 w1161) rfl (ci := 8) rfl rfl nmX8_add rfl hh (Nat.le_of_ble_eq_true rfl) rfl kk hn
theorem rX8_layers_79 {l : Launch} {G : jG} {X : jX} {Q : State → Prop} {n hg nc : Nat} {ret : Option FieldType} {mu : jM} (h : jOk l G X cX8_layers 1 ret RX8 hg nc)
    (k1 : J l G X Q 1 85 [.ref 58] [.int 0, .int 5, .int 4, .int 15, .ref 58] mu n) :
    J l G X Q 1 79 [.ref 58] [] mu n := by
  refine J_aload_n h dX8_layers_79 rfl rfl ?_
  refine J_bipush h dX8_layers_80 cb_15 ?_
  refine J_iconst h dX8_layers_82 ci_4 ?_
  refine J_iconst h dX8_layers_83 ci_5 ?_
  refine J_iconst h dX8_layers_84 ci_0 ?_
  exact k1
theorem rX8_layers_85 {l : Launch} {G : jG} {X : jX} {Q : State → Prop} {n hg nc : Nat} {ret : Option FieldType} {mu : jM} {y0 : Int32} {y1 : Int32} {y2 : Int32} {y3 : Int32} {Qc : jM → Prop} {h' : Nat} (h : jOk l G X cX8_layers 1 ret RX8 hg nc) (hM : jCv l G yX8_add cX8_add 5 h' (.ref 58 :: [.int y3, .int y2, .int y1, .int y0]) mu Qc) (hh : h' < hg ∧ 5 ≤ 21) (hn : n ≤ nc)
    (kk : ∀ mu', Qc mu' → J l G X Q 1 88 [.ref 58] [] mu' n) :
    J l G X Q 1 85 [.ref 58] [.int y0, .int y1, .int y2, .int y3, .ref 58] mu n :=
  J_callV (As := [.int y3, .int y2, .int y1, .int y0]) (rest := []) h dX8_layers_85 hM (jgV w1158 w1160 w36 w84 w1161) rfl (ci := 8) rfl rfl nmX8_add rfl hh (Nat.le_of_ble_eq_true rfl) rfl kk hn
theorem rX8_layers_88 {l : Launch} {G : jG} {X : jX} {Q : State → Prop} {n hg nc : Nat} {ret : Option FieldType} {mu : jM} (h : jOk l G X cX8_layers 1 ret RX8 hg nc)
    (k1 : J l G X Q 1 94 [.ref 58] [.int 0, .int 0, .int 5, .int 16, .ref 58] mu n) :
    J l G X Q 1 88 [.ref 58] [] mu n := by
  refine J_aload_n h dX8_layers_88 rfl rfl ?_
  refine J_bipush h dX8_layers_89 cb_16 ?_
  refine J_iconst h dX8_layers_91 ci_5 ?_
  refine J_iconst h dX8_layers_92 ci_0 ?_
  refine J_iconst h dX8_layers_93 ci_0 ?_
  exact k1
theorem rX8_layers_94 {l : Launch} {G : jG} {X : jX} {Q : State → Prop} {n hg nc : Nat} {ret : Option FieldType} {mu : jM} {y0 : Int32} {y1 : Int32} {y2 : Int32} {y3 : Int32} {Qc : jM → Prop} {h' : Nat} (h : jOk l G X cX8_layers 1 ret RX8 hg nc) (hM : jCv l G yX8_add cX8_add 5 h' (.ref 58 :: [.int y3, .int y2, .int y1, .int y0]) mu Qc) (hh : h' < hg ∧ 5 ≤ 21) (hn : n ≤ nc)
    (kk : ∀ mu', Qc mu' → J l G X Q 1 97 [.ref 58] [] mu' n) :
    J l G X Q 1 94 [.ref 58] [.int y0, .int y1, .int y2, .int y3, .ref 58] mu n :=
  J_callV (As := [.int y3, .int y2, .int y1, .int y0]) (rest := []) h dX8_layers_94 hM (jgV w1158 w1160 w36 w84 w1161) rfl (ci := 8) rfl rfl nmX8_add rfl hh (Nat.le_of_ble_eq_true rfl) rfl kk hn
theorem rX8_layers_97 {l : Launch} {G : jG} {X : jX} {Q : State → Prop} {n hg nc : Nat} {ret : Option FieldType} {mu : jM} (h : jOk l G X cX8_layers 1 ret RX8 hg nc)
    (k1 : J l G X Q 1 103 [.ref 58] [.int 0, .int 3, .int 5, .int 14, .ref 58] mu n) :
    J l G X Q 1 97 [.ref 58] [] mu n := by
  refine J_aload_n h dX8_layers_97 rfl rfl ?_
  refine J_bipush h dX8_layers_98 cb_14 ?_
  refine J_iconst h dX8_layers_100 ci_5 ?_
  refine J_iconst h dX8_layers_101 ci_3 ?_
  refine J_iconst h dX8_layers_102 ci_0 ?_
  exact k1
theorem rX8_layers_103 {l : Launch} {G : jG} {X : jX} {Q : State → Prop} {n hg nc : Nat} {ret : Option FieldType} {mu : jM} {y0 : Int32} {y1 : Int32} {y2 : Int32} {y3 : Int32} {Qc : jM → Prop} {h' : Nat} (h : jOk l G X cX8_layers 1 ret RX8 hg nc) (hM : jCv l G yX8_add cX8_add 5 h' (.ref 58 :: [.int y3, .int y2, .int y1, .int y0]) mu Qc) (hh : h' < hg ∧ 5 ≤ 21) (hn : n ≤ nc)
    (kk : ∀ mu', Qc mu' → J l G X Q 1 106 [.ref 58] [] mu' n) :
    J l G X Q 1 103 [.ref 58] [.int y0, .int y1, .int y2, .int y3, .ref 58] mu n :=
  J_callV (As := [.int y3, .int y2, .int y1, .int y0]) (rest := []) h dX8_layers_103 hM (jgV w1158 w1160 w36 w84 w1161) rfl (ci := 8) rfl rfl nmX8_add rfl hh (Nat.le_of_ble_eq_true rfl) rfl kk hn
theorem rX8_layers_106 {l : Launch} {G : jG} {X : jX} {Q : State → Prop} {n hg nc : Nat} {ret : Option FieldType} {mu : jM} (h : jOk l G X cX8_layers 1 ret RX8 hg nc)
    (k1 : J l G X Q 1 111 [.ref 58] [.int 0, .int 1, .int 0, .int 0, .ref 58] mu n) :
    J l G X Q 1 106 [.ref 58] [] mu n := by
  refine J_aload_n h dX8_layers_106 rfl rfl ?_
  refine J_iconst h dX8_layers_107 ci_0 ?_
  refine J_iconst h dX8_layers_108 ci_0 ?_
  refine J_iconst h dX8_layers_109 ci_1 ?_
  refine J_iconst h dX8_layers_110 ci_0 ?_
  exact k1
theorem rX8_layers_111 {l : Launch} {G : jG} {X : jX} {Q : State → Prop} {n hg nc : Nat} {ret : Option FieldType} {mu : jM} {y0 : Int32} {y1 : Int32} {y2 : Int32} {y3 : Int32} {Qc : jM → Prop} {h' : Nat} (h : jOk l G X cX8_layers 1 ret RX8 hg nc) (hM : jCv l G yX8_add cX8_add 5 h' (.ref 58 :: [.int y3, .int y2, .int y1, .int y0]) mu Qc) (hh : h' < hg ∧ 5 ≤ 21) (hn : n ≤ nc)
    (kk : ∀ mu', Qc mu' → J l G X Q 1 114 [.ref 58] [] mu' n) :
    J l G X Q 1 111 [.ref 58] [.int y0, .int y1, .int y2, .int y3, .ref 58] mu n :=
  J_callV (As := [.int y3, .int y2, .int y1, .int y0]) (rest := []) h dX8_layers_111 hM (jgV w1158 w1160 w36 w84 w1161) rfl (ci := 8) rfl rfl nmX8_add rfl hh (Nat.le_of_ble_eq_true rfl) rfl kk hn
theorem rX8_layers_114 {l : Launch} {G : jG} {X : jX} {Q : State → Prop} {n hg nc : Nat} {ret : Option FieldType} {mu : jM} (h : jOk l G X cX8_layers 1 ret RX8 hg nc)
    (k1 : J l G X Q 1 120 [.ref 58] [.int 0, .int 0, .int 1, .int 19, .ref 58] mu n) :
    J l G X Q 1 114 [.ref 58] [] mu n := by
  refine J_aload_n h dX8_layers_114 rfl rfl ?_
  refine J_bipush h dX8_layers_115 cb_19 ?_
  refine J_iconst h dX8_layers_117 ci_1 ?_
  refine J_iconst h dX8_layers_118 ci_0 ?_
  refine J_iconst h dX8_layers_119 ci_0 ?_
  exact k1
theorem rX8_layers_120 {l : Launch} {G : jG} {X : jX} {Q : State → Prop} {n hg nc : Nat} {ret : Option FieldType} {mu : jM} {y0 : Int32} {y1 : Int32} {y2 : Int32} {y3 : Int32} {Qc : jM → Prop} {h' : Nat} (h : jOk l G X cX8_layers 1 ret RX8 hg nc) (hM : jCv l G yX8_add cX8_add 5 h' (.ref 58 :: [.int y3, .int y2, .int y1, .int y0]) mu Qc) (hh : h' < hg ∧ 5 ≤ 21) (hn : n ≤ nc)
    (kk : ∀ mu', Qc mu' → J l G X Q 1 123 [.ref 58] [] mu' n) :
    J l G X Q 1 120 [.ref 58] [.int y0, .int y1, .int y2, .int y3, .ref 58] mu n :=
  J_callV (As := [.int y3, .int y2, .int y1, .int y0]) (rest := []) h dX8_layers_120 hM (jgV w1158 w1160 w36 w84 w1161) rfl (ci := 8) rfl rfl nmX8_add rfl hh (Nat.le_of_ble_eq_true rfl) rfl kk hn
theorem rX8_layers_123 {l : Launch} {G : jG} {X : jX} {Q : State → Prop} {n hg nc : Nat} {ret : Option FieldType} {mu : jM} (h : jOk l G X cX8_layers 1 ret RX8 hg nc)
    (k1 : J l G X Q 1 128 [.ref 58] [.int 0, .int 0, .int 2, .int 0, .ref 58] mu n) :
    J l G X Q 1 123 [.ref 58] [] mu n := by
  refine J_aload_n h dX8_layers_123 rfl rfl ?_
  refine J_iconst h dX8_layers_124 ci_0 ?_
  refine J_iconst h dX8_layers_125 ci_2 ?_
  refine J_iconst h dX8_layers_126 ci_0 ?_
  refine J_iconst h dX8_layers_127 ci_0 ?_
  exact k1
theorem rX8_layers_128 {l : Launch} {G : jG} {X : jX} {Q : State → Prop} {n hg nc : Nat} {ret : Option FieldType} {mu : jM} {y0 : Int32} {y1 : Int32} {y2 : Int32} {y3 : Int32} {Qc : jM → Prop} {h' : Nat} (h : jOk l G X cX8_layers 1 ret RX8 hg nc) (hM : jCv l G yX8_add cX8_add 5 h' (.ref 58 :: [.int y3, .int y2, .int y1, .int y0]) mu Qc) (hh : h' < hg ∧ 5 ≤ 21) (hn : n ≤ nc)
    (kk : ∀ mu', Qc mu' → J l G X Q 1 131 [.ref 58] [] mu' n) :
    J l G X Q 1 128 [.ref 58] [.int y0, .int y1, .int y2, .int y3, .ref 58] mu n :=
  J_callV (As := [.int y3, .int y2, .int y1, .int y0]) (rest := []) h dX8_layers_128 hM (jgV w1158 w1160 w36 w84 w1161) rfl (ci := 8) rfl rfl nmX8_add rfl hh (Nat.le_of_ble_eq_true rfl) rfl kk hn
/-! LockstepNetModel.leasts()V -/
theorem rX8_leasts_0 {l : Launch} {G : jG} {X : jX} {Q : State → Prop} {n hg nc : Nat} {ret : Option FieldType} {mu : jM} (h : jOk l G X cX8_leasts 1 ret RX8 hg nc)
    (k1 : J l G X Q 1 6 [.ref 58] [.int 0, .int 4, .int 4, .int 15, .ref 58] mu n) :
    J l G X Q 1 0 [.ref 58] [] mu n := by
  refine J_aload_n h dX8_leasts_0 rfl rfl ?_
  refine J_bipush h dX8_leasts_1 cb_15 ?_
  refine J_iconst h dX8_leasts_3 ci_4 ?_
  refine J_iconst h dX8_leasts_4 ci_4 ?_
  refine J_iconst h dX8_leasts_5 ci_0 ?_
  exact k1
theorem rX8_leasts_6 {l : Launch} {G : jG} {X : jX} {Q : State → Prop} {n hg nc : Nat} {ret : Option FieldType} {mu : jM} {y0 : Int32} {y1 : Int32} {y2 : Int32} {y3 : Int32} {Qc : jM → Prop} {h' : Nat} (h : jOk l G X cX8_leasts 1 ret RX8 hg nc) (hM : jCv l G yX8_add cX8_add 5 h' (.ref 58 :: [.int y3, .int y2, .int y1, .int y0]) mu Qc) (hh : h' < hg ∧ 5 ≤ 21) (hn : n ≤ nc)
    (kk : ∀ mu', Qc mu' → J l G X Q 1 9 [.ref 58] [] mu' n) :
    J l G X Q 1 6 [.ref 58] [.int y0, .int y1, .int y2, .int y3, .ref 58] mu n :=
  J_callV (As := [.int y3, .int y2, .int y1, .int y0]) (rest := []) h dX8_leasts_6 hM (jgV w1158 w1160 w36 w84 w1161) rfl (ci := 8) rfl rfl nmX8_add rfl hh (Nat.le_of_ble_eq_true rfl) rfl kk hn
theorem rX8_leasts_9 {l : Launch} {G : jG} {X : jX} {Q : State → Prop} {n hg nc : Nat} {ret : Option FieldType} {mu : jM} (h : jOk l G X cX8_leasts 1 ret RX8 hg nc)
    (k1 : J l G X Q 1 15 [.ref 58] [.int 0, .int 0, .int 2, .int 16, .ref 58] mu n) :
    J l G X Q 1 9 [.ref 58] [] mu n := by
  refine J_aload_n h dX8_leasts_9 rfl rfl ?_
  refine J_bipush h dX8_leasts_10 cb_16 ?_
  refine J_iconst h dX8_leasts_12 ci_2 ?_
  refine J_iconst h dX8_leasts_13 ci_0 ?_
  refine J_iconst h dX8_leasts_14 ci_0 ?_
  exact k1
theorem rX8_leasts_15 {l : Launch} {G : jG} {X : jX} {Q : State → Prop} {n hg nc : Nat} {ret : Option FieldType} {mu : jM} {y0 : Int32} {y1 : Int32} {y2 : Int32} {y3 : Int32} {Qc : jM → Prop} {h' : Nat} (h : jOk l G X cX8_leasts 1 ret RX8 hg nc) (hM : jCv l G yX8_add cX8_add 5 h' (.ref 58 :: [.int y3, .int y2, .int y1, .int y0]) mu Qc) (hh : h' < hg ∧ 5 ≤ 21) (hn : n ≤ nc)
    (kk : ∀ mu', Qc mu' → J l G X Q 1 18 [.ref 58] [] mu' n) :
    J l G X Q 1 15 [.ref 58] [.int y0, .int y1, .int y2, .int y3, .ref 58] mu n :=
  J_callV (As := [.int y3, .int y2, .int y1, .int y0]) (rest := []) h dX8_leasts_15 hM (jgV w1158 w1160 w36 w84 w1161) rfl (ci := 8) rfl rfl nmX8_add rfl hh (Nat.le_of_ble_eq_true rfl) rfl kk hn
theorem rX8_leasts_18 {l : Launch} {G : jG} {X : jX} {Q : State → Prop} {n hg nc : Nat} {ret : Option FieldType} {mu : jM} (h : jOk l G X cX8_leasts 1 ret RX8 hg nc)
    (k1 : J l G X Q 1 24 [.ref 58] [.int 0, .int 2, .int 2, .int 14, .ref 58] mu n) :
    J l G X Q 1 18 [.ref 58] [] mu n := by
  refine J_aload_n h dX8_leasts_18 rfl rfl ?_
  refine J_bipush h dX8_leasts_19 cb_14 ?_
  refine J_iconst h dX8_leasts_21 ci_2 ?_
  refine J_iconst h dX8_leasts_22 ci_2 ?_
  refine J_iconst h dX8_leasts_23 ci_0 ?_
  exact k1
theorem rX8_leasts_24 {l : Launch} {G : jG} {X : jX} {Q : State → Prop} {n hg nc : Nat} {ret : Option FieldType} {mu : jM} {y0 : Int32} {y1 : Int32} {y2 : Int32} {y3 : Int32} {Qc : jM → Prop} {h' : Nat} (h : jOk l G X cX8_leasts 1 ret RX8 hg nc) (hM : jCv l G yX8_add cX8_add 5 h' (.ref 58 :: [.int y3, .int y2, .int y1, .int y0]) mu Qc) (hh : h' < hg ∧ 5 ≤ 21) (hn : n ≤ nc)
    (kk : ∀ mu', Qc mu' → J l G X Q 1 27 [.ref 58] [] mu' n) :
    J l G X Q 1 24 [.ref 58] [.int y0, .int y1, .int y2, .int y3, .ref 58] mu n :=
  J_callV (As := [.int y3, .int y2, .int y1, .int y0]) (rest := []) h dX8_leasts_24 hM (jgV w1158 w1160 w36 w84 w1161) rfl (ci := 8) rfl rfl nmX8_add rfl hh (Nat.le_of_ble_eq_true rfl) rfl kk hn
theorem rX8_leasts_27 {l : Launch} {G : jG} {X : jX} {Q : State → Prop} {n hg nc : Nat} {ret : Option FieldType} {mu : jM} (h : jOk l G X cX8_leasts 1 ret RX8 hg nc)
    (k1 : J l G X Q 1 33 [.ref 58] [.int 0, .int 0, .int 2, .int 17, .ref 58] mu n) :
    J l G X Q 1 27 [.ref 58] [] mu n := by
  refine J_aload_n h dX8_leasts_27 rfl rfl ?_
  refine J_bipush h dX8_leasts_28 cb_17 ?_
  refine J_iconst h dX8_leasts_30 ci_2 ?_
  refine J_iconst h dX8_leasts_31 ci_0 ?_
  refine J_iconst h dX8_leasts_32 ci_0 ?_
  exact k1
theorem rX8_leasts_33 {l : Launch} {G : jG} {X : jX} {Q : State → Prop} {n hg nc : Nat} {ret : Option FieldType} {mu : jM} {y0 : Int32} {y1 : Int32} {y2 : Int32} {y3 : Int32} {Qc : jM → Prop} {h' : Nat} (h : jOk l G X cX8_leasts 1 ret RX8 hg nc) (hM : jCv l G yX8_add cX8_add 5 h' (.ref 58 :: [.int y3, .int y2, .int y1, .int y0]) mu Qc) (hh : h' < hg ∧ 5 ≤ 21) (hn : n ≤ nc)
    (kk : ∀ mu', Qc mu' → J l G X Q 1 36 [.ref 58] [] mu' n) :
    J l G X Q 1 33 [.ref 58] [.int y0, .int y1, .int y2, .int y3, .ref 58] mu n :=
  J_callV (As := [.int y3, .int y2, .int y1, .int y0]) (rest := []) h dX8_leasts_33 hM (jgV w1158 w1160 w36 w84 w1161) rfl (ci := 8) rfl rfl nmX8_add rfl hh (Nat.le_of_ble_eq_true rfl) rfl kk hn
theorem rX8_leasts_36 {l : Launch} {G : jG} {X : jX} {Q : State → Prop} {n hg nc : Nat} {ret : Option FieldType} {mu : jM} (h : jOk l G X cX8_leasts 1 ret RX8 hg nc)
    (k1 : J l G X Q 1 41 [.ref 58] [.int 2, .int 0, .int 0, .int 5, .ref 58] mu n) :
    J l G X Q 1 36 [.ref 58] [] mu n := by
  refine J_aload_n h dX8_leasts_36 rfl rfl ?_
  refine J_iconst h dX8_leasts_37 ci_5 ?_
  refine J_iconst h dX8_leasts_38 ci_0 ?_
  refine J_iconst h dX8_leasts_39 ci_0 ?_
  refine J_iconst h dX8_leasts_40 ci_2 ?_
  exact k1
theorem rX8_leasts_41 {l : Launch} {G : jG} {X : jX} {Q : State → Prop} {n hg nc : Nat} {ret : Option FieldType} {mu : jM} {y0 : Int32} {y1 : Int32} {y2 : Int32} {y3 : Int32} {Qc : jM → Prop} {h' : Nat} (h : jOk l G X cX8_leasts 1 ret RX8 hg nc) (hM : jCv l G yX8_add cX8_add 5 h' (.ref 58 :: [.int y3, .int y2, .int y1, .int y0]) mu Qc) (hh : h' < hg ∧ 5 ≤ 21) (hn : n ≤ nc)
    (kk : ∀ mu', Qc mu' → J l G X Q 1 44 [.ref 58] [] mu' n) :
    J l G X Q 1 41 [.ref 58] [.int y0, .int y1, .int y2, .int y3, .ref 58] mu n :=
  J_callV (As := [.int y3, .int y2, .int y1, .int y0]) (rest := []) h dX8_leasts_41 hM (jgV w1158 w1160 w36 w84 w1161) rfl (ci := 8) rfl rfl nmX8_add rfl hh (Nat.le_of_ble_eq_true rfl) rfl kk hn
theorem rX8_leasts_44 {l : Launch} {G : jG} {X : jX} {Q : State → Prop} {n hg nc : Nat} {ret : Option FieldType} {mu : jM} (h : jOk l G X cX8_leasts 1 ret RX8 hg nc)
    (k1 : J l G X Q 1 50 [.ref 58] [.int 0, .int 1, .int 4, .int 15, .ref 58] mu n) :
    J l G X Q 1 44 [.ref 58] [] mu n := by
  refine J_aload_n h dX8_leasts_44 rfl rfl ?_
  refine J_bipush h dX8_leasts_45 cb_15 ?_
  refine J_iconst h dX8_leasts_47 ci_4 ?_
  refine J_iconst h dX8_leasts_48 ci_1 ?_
  refine J_iconst h dX8_leasts_49 ci_0 ?_
  exact k1
theorem rX8_leasts_50 {l : Launch} {G : jG} {X : jX} {Q : State → Prop} {n hg nc : Nat} {ret : Option FieldType} {mu : jM} {y0 : Int32} {y1 : Int32} {y2 : Int32} {y3 : Int32} {Qc : jM → Prop} {h' : Nat} (h : jOk l G X cX8_leasts 1 ret RX8 hg nc) (hM : jCv l G yX8_add cX8_add 5 h' (.ref 58 :: [.int y3, .int y2, .int y1, .int y0]) mu Qc) (hh : h' < hg ∧ 5 ≤ 21) (hn : n ≤ nc)
    (kk : ∀ mu', Qc mu' → J l G X Q 1 53 [.ref 58] [] mu' n) :
    J l G X Q 1 50 [.ref 58] [.int y0, .int y1, .int y2, .int y3, .ref 58] mu n :=
  J_callV (As := [.int y3, .int y2, .int y1, .int y0]) (rest := []) h dX8_leasts_50 hM (jgV w1158 w1160 w36 w84 w1161) rfl (ci := 8) rfl rfl nmX8_add rfl hh (Nat.le_of_ble_eq_true rfl) rfl kk hn
theorem rX8_leasts_53 {l : Launch} {G : jG} {X : jX} {Q : State → Prop} {n hg nc : Nat} {ret : Option FieldType} {mu : jM} (h : jOk l G X cX8_leasts 1 ret RX8 hg nc)
    (k1 : J l G X Q 1 59 [.ref 58] [.int 0, .int 0, .int 0, .int 18, .ref 58] mu n) :
    J l G X Q 1 53 [.ref 58] [] mu n := by
  refine J_aload_n h dX8_leasts_53 rfl rfl ?_
  refine J_bipush h dX8_leasts_54 cb_18 ?_
  refine J_iconst h dX8_leasts_56 ci_0 ?_
  refine J_iconst h dX8_leasts_57 ci_0 ?_
  refine J_iconst h dX8_leasts_58 ci_0 ?_
  exact k1
theorem rX8_leasts_59 {l : Launch} {G : jG} {X : jX} {Q : State → Prop} {n hg nc : Nat} {ret : Option FieldType} {mu : jM} {y0 : Int32} {y1 : Int32} {y2 : Int32} {y3 : Int32} {Qc : jM → Prop} {h' : Nat} (h : jOk l G X cX8_leasts 1 ret RX8 hg nc) (hM : jCv l G yX8_add cX8_add 5 h' (.ref 58 :: [.int y3, .int y2, .int y1, .int y0]) mu Qc) (hh : h' < hg ∧ 5 ≤ 21) (hn : n ≤ nc)
    (kk : ∀ mu', Qc mu' → J l G X Q 1 62 [.ref 58] [] mu' n) :
    J l G X Q 1 59 [.ref 58] [.int y0, .int y1, .int y2, .int y3, .ref 58] mu n :=
  J_callV (As := [.int y3, .int y2, .int y1, .int y0]) (rest := []) h dX8_leasts_59 hM (jgV w1158 w1160 w36 w84 w1161) rfl (ci := 8) rfl rfl nmX8_add rfl hh (Nat.le_of_ble_eq_true rfl) rfl kk hn
/-! LockstepNetModel.cells()V -/
theorem rX8_cells_0 {l : Launch} {G : jG} {X : jX} {Q : State → Prop} {n hg nc : Nat} {ret : Option FieldType} {mu : jM} (h : jOk l G X cX8_cells 1 ret RX8 hg nc)
    (k1 : J l G X Q 1 6 [.ref 58] [.int 0, .int 2, .int 4, .int 15, .ref 58] mu n) :
    J l G X Q 1 0 [.ref 58] [] mu n := by
  refine J_aload_n h dX8_cells_0 rfl rfl ?_
  refine J_bipush h dX8_cells_1 cb_15 ?_
  refine J_iconst h dX8_cells_3 ci_4 ?_
  refine J_iconst h dX8_cells_4 ci_2 ?_
  refine J_iconst h dX8_cells_5 ci_0 ?_
  exact k1
theorem rX8_cells_6 {l : Launch} {G : jG} {X : jX} {Q : State → Prop} {n hg nc : Nat} {ret : Option FieldType} {mu : jM} {y0 : Int32} {y1 : Int32} {y2 : Int32} {y3 : Int32} {Qc : jM → Prop} {h' : Nat} (h : jOk l G X cX8_cells 1 ret RX8 hg nc) (hM : jCv l G yX8_add cX8_add 5 h' (.ref 58 :: [.int y3, .int y2, .int y1, .int y0]) mu Qc) (hh : h' < hg ∧ 5 ≤ 21) (hn : n ≤ nc)
    (kk : ∀ mu', Qc mu' → J l G X Q 1 9 [.ref 58] [] mu' n) :
    J l G X Q 1 6 [.ref 58] [.int y0, .int y1, .int y2, .int y3, .ref 58] mu n :=
  J_callV (As := [.int y3, .int y2, .int y1, .int y0]) (rest := []) h dX8_cells_6 hM (jgV w1158 w1160 w36 w84 w1161) rfl (ci := 8) rfl rfl nmX8_add rfl hh (Nat.le_of_ble_eq_true rfl) rfl kk hn
theorem rX8_cells_9 {l : Launch} {G : jG} {X : jX} {Q : State → Prop} {n hg nc : Nat} {ret : Option FieldType} {mu : jM} (h : jOk l G X cX8_cells 1 ret RX8 hg nc)
    (k1 : J l G X Q 1 15 [.ref 58] [.int 0, .int 0, .int 2, .int 17, .ref 58] mu n) :
    J l G X Q 1 9 [.ref 58] [] mu n := by
  refine J_aload_n h dX8_cells_9 rfl rfl ?_
  refine J_bipush h dX8_cells_10 cb_17 ?_
  refine J_iconst h dX8_cells_12 ci_2 ?_
  refine J_iconst h dX8_cells_13 ci_0 ?_
  refine J_iconst h dX8_cells_14 ci_0 ?_
  exact k1
theorem rX8_cells_15 {l : Launch} {G : jG} {X : jX} {Q : State → Prop} {n hg nc : Nat} {ret : Option FieldType} {mu : jM} {y0 : Int32} {y1 : Int32} {y2 : Int32} {y3 : Int32} {Qc : jM → Prop} {h' : Nat} (h : jOk l G X cX8_cells 1 ret RX8 hg nc) (hM : jCv l G yX8_add cX8_add 5 h' (.ref 58 :: [.int y3, .int y2, .int y1, .int y0]) mu Qc) (hh : h' < hg ∧ 5 ≤ 21) (hn : n ≤ nc)
    (kk : ∀ mu', Qc mu' → J l G X Q 1 18 [.ref 58] [] mu' n) :
    J l G X Q 1 15 [.ref 58] [.int y0, .int y1, .int y2, .int y3, .ref 58] mu n :=
  J_callV (As := [.int y3, .int y2, .int y1, .int y0]) (rest := []) h dX8_cells_15 hM (jgV w1158 w1160 w36 w84 w1161) rfl (ci := 8) rfl rfl nmX8_add rfl hh (Nat.le_of_ble_eq_true rfl) rfl kk hn
theorem rX8_cells_18 {l : Launch} {G : jG} {X : jX} {Q : State → Prop} {n hg nc : Nat} {ret : Option FieldType} {mu : jM} (h : jOk l G X cX8_cells 1 ret RX8 hg nc)
    (k1 : J l G X Q 1 23 [.ref 58] [.int 2, .int 1, .int 1, .int 2, .ref 58] mu n) :
    J l G X Q 1 18 [.ref 58] [] mu n := by
  refine J_aload_n h dX8_cells_18 rfl rfl ?_
  refine J_iconst h dX8_cells_19 ci_2 ?_
  refine J_iconst h dX8_cells_20 ci_1 ?_
  refine J_iconst h dX8_cells_21 ci_1 ?_
  refine J_iconst h dX8_cells_22 ci_2 ?_
  exact k1
theorem rX8_cells_23 {l : Launch} {G : jG} {X : jX} {Q : State → Prop} {n hg nc : Nat} {ret : Option FieldType} {mu : jM} {y0 : Int32} {y1 : Int32} {y2 : Int32} {y3 : Int32} {Qc : jM → Prop} {h' : Nat} (h : jOk l G X cX8_cells 1 ret RX8 hg nc) (hM : jCv l G yX8_add cX8_add 5 h' (.ref 58 :: [.int y3, .int y2, .int y1, .int y0]) mu Qc) (hh : h' < hg ∧ 5 ≤ 21) (hn : n ≤ nc)
    (kk : ∀ mu', Qc mu' → J l G X Q 1 26 [.ref 58] [] mu' n) :
    J l G X Q 1 23 [.ref 58] [.int y0, .int y1, .int y2, .int y3, .ref 58] mu n :=
  J_callV (As := [.int y3, .int y2, .int y1, .int y0]) (rest := []) h dX8_cells_23 hM (jgV w1158 w1160 w36 w84 w1161) rfl (ci := 8) rfl rfl nmX8_add rfl hh (Nat.le_of_ble_eq_true rfl) rfl kk hn
theorem rX8_cells_26 {l : Launch} {G : jG} {X : jX} {Q : State → Prop} {n hg nc : Nat} {ret : Option FieldType} {mu : jM} (h : jOk l G X cX8_cells 1 ret RX8 hg nc)
    (k1 : J l G X Q 1 32 [.ref 58] [.int 0, .int 0, .int 5, .int 19, .ref 58] mu n) :
    J l G X Q 1 26 [.ref 58] [] mu n := by
  refine J_aload_n h dX8_cells_26 rfl rfl ?_
  refine J_bipush h dX8_cells_27 cb_19 ?_
  refine J_iconst h dX8_cells_29 ci_5 ?_
  refine J_iconst h dX8_cells_30 ci_0 ?_
  refine J_iconst h dX8_cells_31 ci_0 ?_
  exact k1
theorem rX8_cells_32 {l : Launch} {G : jG} {X : jX} {Q : State → Prop} {n hg nc : Nat} {ret : Option FieldType} {mu : jM} {y0 : Int32} {y1 : Int32} {y2 : Int32} {y3 : Int32} {Qc : jM → Prop} {h' : Nat} (h : jOk l G X cX8_cells 1 ret RX8 hg nc) (hM : jCv l G yX8_add cX8_add 5 h' (.ref 58 :: [.int y3, .int y2, .int y1, .int y0]) mu Qc) (hh : h' < hg ∧ 5 ≤ 21) (hn : n ≤ nc)
    (kk : ∀ mu', Qc mu' → J l G X Q 1 35 [.ref 58] [] mu' n) :
    J l G X Q 1 32 [.ref 58] [.int y0, .int y1, .int y2, .int y3, .ref 58] mu n :=
  J_callV (As := [.int y3, .int y2, .int y1, .int y0]) (rest := []) h dX8_cells_32 hM (jgV w1158 w1160 w36 w84 w1161) rfl (ci := 8) rfl rfl nmX8_add rfl hh (Nat.le_of_ble_eq_true rfl) rfl kk hn
theorem rX8_cells_35 {l : Launch} {G : jG} {X : jX} {Q : State → Prop} {n hg nc : Nat} {ret : Option FieldType} {mu : jM} (h : jOk l G X cX8_cells 1 ret RX8 hg nc)
    (k1 : J l G X Q 1 41 [.ref 58] [.int 0, .int 1, .int 6, .int 0, .ref 58] mu n) :
    J l G X Q 1 35 [.ref 58] [] mu n := by
  refine J_aload_n h dX8_cells_35 rfl rfl ?_
  refine J_iconst h dX8_cells_36 ci_0 ?_
  refine J_bipush h dX8_cells_37 cb_6 ?_
  refine J_iconst h dX8_cells_39 ci_1 ?_
  refine J_iconst h dX8_cells_40 ci_0 ?_
  exact k1
theorem rX8_cells_41 {l : Launch} {G : jG} {X : jX} {Q : State → Prop} {n hg nc : Nat} {ret : Option FieldType} {mu : jM} {y0 : Int32} {y1 : Int32} {y2 : Int32} {y3 : Int32} {Qc : jM → Prop} {h' : Nat} (h : jOk l G X cX8_cells 1 ret RX8 hg nc) (hM : jCv l G yX8_add cX8_add 5 h' (.ref 58 :: [.int y3, .int y2, .int y1, .int y0]) mu Qc) (hh : h' < hg ∧ 5 ≤ 21) (hn : n ≤ nc)
    (kk : ∀ mu', Qc mu' → J l G X Q 1 44 [.ref 58] [] mu' n) :
    J l G X Q 1 41 [.ref 58] [.int y0, .int y1, .int y2, .int y3, .ref 58] mu n :=
  J_callV (As := [.int y3, .int y2, .int y1, .int y0]) (rest := []) h dX8_cells_41 hM (jgV w1158 w1160 w36 w84 w1161) rfl (ci := 8) rfl rfl nmX8_add rfl hh (Nat.le_of_ble_eq_true rfl) rfl kk hn
theorem rX8_cells_44 {l : Launch} {G : jG} {X : jX} {Q : State → Prop} {n hg nc : Nat} {ret : Option FieldType} {mu : jM} (h : jOk l G X cX8_cells 1 ret RX8 hg nc)
    (k1 : J l G X Q 1 51 [.ref 58] [.int 5, .int 6, .int 5, .int 7, .ref 58] mu n) :
    J l G X Q 1 44 [.ref 58] [] mu n := by
  refine J_aload_n h dX8_cells_44 rfl rfl ?_
  refine J_bipush h dX8_cells_45 cb_7 ?_
  refine J_iconst h dX8_cells_47 ci_5 ?_
  refine J_bipush h dX8_cells_48 cb_6 ?_
  refine J_iconst h dX8_cells_50 ci_5 ?_
  exact k1
theorem rX8_cells_51 {l : Launch} {G : jG} {X : jX} {Q : State → Prop} {n hg nc : Nat} {ret : Option FieldType} {mu : jM} {y0 : Int32} {y1 : Int32} {y2 : Int32} {y3 : Int32} {Qc : jM → Prop} {h' : Nat} (h : jOk l G X cX8_cells 1 ret RX8 hg nc) (hM : jCv l G yX8_add cX8_add 5 h' (.ref 58 :: [.int y3, .int y2, .int y1, .int y0]) mu Qc) (hh : h' < hg ∧ 5 ≤ 21) (hn : n ≤ nc)
    (kk : ∀ mu', Qc mu' → J l G X Q 1 54 [.ref 58] [] mu' n) :
    J l G X Q 1 51 [.ref 58] [.int y0, .int y1, .int y2, .int y3, .ref 58] mu n :=
  J_callV (As := [.int y3, .int y2, .int y1, .int y0]) (rest := []) h dX8_cells_51 hM (jgV w1158 w1160 w36 w84 w1161) rfl (ci := 8) rfl rfl nmX8_add rfl hh (Nat.le_of_ble_eq_true rfl) rfl kk hn
theorem rX8_cells_54 {l : Launch} {G : jG} {X : jX} {Q : State → Prop} {n hg nc : Nat} {ret : Option FieldType} {mu : jM} (h : jOk l G X cX8_cells 1 ret RX8 hg nc)
    (k1 : J l G X Q 1 61 [.ref 58] [.int 0, .int 8, .int 5, .int 14, .ref 58] mu n) :
    J l G X Q 1 54 [.ref 58] [] mu n := by
  refine J_aload_n h dX8_cells_54 rfl rfl ?_
  refine J_bipush h dX8_cells_55 cb_14 ?_
  refine J_iconst h dX8_cells_57 ci_5 ?_
  refine J_bipush h dX8_cells_58 cb_8 ?_
  refine J_iconst h dX8_cells_60 ci_0 ?_
  exact k1
theorem rX8_cells_61 {l : Launch} {G : jG} {X : jX} {Q : State → Prop} {n hg nc : Nat} {ret : Option FieldType} {mu : jM} {y0 : Int32} {y1 : Int32} {y2 : Int32} {y3 : Int32} {Qc : jM → Prop} {h' : Nat} (h : jOk l G X cX8_cells 1 ret RX8 hg nc) (hM : jCv l G yX8_add cX8_add 5 h' (.ref 58 :: [.int y3, .int y2, .int y1, .int y0]) mu Qc) (hh : h' < hg ∧ 5 ≤ 21) (hn : n ≤ nc)
    (kk : ∀ mu', Qc mu' → J l G X Q 1 64 [.ref 58] [] mu' n) :
    J l G X Q 1 61 [.ref 58] [.int y0, .int y1, .int y2, .int y3, .ref 58] mu n :=
  J_callV (As := [.int y3, .int y2, .int y1, .int y0]) (rest := []) h dX8_cells_61 hM (jgV w1158 w1160 w36 w84 w1161) rfl (ci := 8) rfl rfl nmX8_add rfl hh (Nat.le_of_ble_eq_true rfl) rfl kk hn
theorem rX8_cells_64 {l : Launch} {G : jG} {X : jX} {Q : State → Prop} {n hg nc : Nat} {ret : Option FieldType} {mu : jM} (h : jOk l G X cX8_cells 1 ret RX8 hg nc)
    (k1 : J l G X Q 1 69 [.ref 58] [.int 0, .int 3, .int 2, .int 0, .ref 58] mu n) :
    J l G X Q 1 64 [.ref 58] [] mu n := by
  refine J_aload_n h dX8_cells_64 rfl rfl ?_
  refine J_iconst h dX8_cells_65 ci_0 ?_
  refine J_iconst h dX8_cells_66 ci_2 ?_
  refine J_iconst h dX8_cells_67 ci_3 ?_
  refine J_iconst h dX8_cells_68 ci_0 ?_
  exact k1
theorem rX8_cells_69 {l : Launch} {G : jG} {X : jX} {Q : State → Prop} {n hg nc : Nat} {ret : Option FieldType} {mu : jM} {y0 : Int32} {y1 : Int32} {y2 : Int32} {y3 : Int32} {Qc : jM → Prop} {h' : Nat} (h : jOk l G X cX8_cells 1 ret RX8 hg nc) (hM : jCv l G yX8_add cX8_add 5 h' (.ref 58 :: [.int y3, .int y2, .int y1, .int y0]) mu Qc) (hh : h' < hg ∧ 5 ≤ 21) (hn : n ≤ nc)
    (kk : ∀ mu', Qc mu' → J l G X Q 1 72 [.ref 58] [] mu' n) :
    J l G X Q 1 69 [.ref 58] [.int y0, .int y1, .int y2, .int y3, .ref 58] mu n :=
  J_callV (As := [.int y3, .int y2, .int y1, .int y0]) (rest := []) h dX8_cells_69 hM (jgV w1158 w1160 w36 w84 w1161) rfl (ci := 8) rfl rfl nmX8_add rfl hh (Nat.le_of_ble_eq_true rfl) rfl kk hn
theorem rX8_cells_72 {l : Launch} {G : jG} {X : jX} {Q : State → Prop} {n hg nc : Nat} {ret : Option FieldType} {mu : jM} (h : jOk l G X cX8_cells 1 ret RX8 hg nc)
    (k1 : J l G X Q 1 78 [.ref 58] [.int 2, .int 1, .int 3, .int 8, .ref 58] mu n) :
    J l G X Q 1 72 [.ref 58] [] mu n := by
  refine J_aload_n h dX8_cells_72 rfl rfl ?_
  refine J_bipush h dX8_cells_73 cb_8 ?_
  refine J_iconst h dX8_cells_75 ci_3 ?_
  refine J_iconst h dX8_cells_76 ci_1 ?_
  refine J_iconst h dX8_cells_77 ci_2 ?_
  exact k1
theorem rX8_cells_78 {l : Launch} {G : jG} {X : jX} {Q : State → Prop} {n hg nc : Nat} {ret : Option FieldType} {mu : jM} {y0 : Int32} {y1 : Int32} {y2 : Int32} {y3 : Int32} {Qc : jM → Prop} {h' : Nat} (h : jOk l G X cX8_cells 1 ret RX8 hg nc) (hM : jCv l G yX8_add cX8_add 5 h' (.ref 58 :: [.int y3, .int y2, .int y1, .int y0]) mu Qc) (hh : h' < hg ∧ 5 ≤ 21) (hn : n ≤ nc)
    (kk : ∀ mu', Qc mu' → J l G X Q 1 81 [.ref 58] [] mu' n) :
    J l G X Q 1 78 [.ref 58] [.int y0, .int y1, .int y2, .int y3, .ref 58] mu n :=
  J_callV (As := [.int y3, .int y2, .int y1, .int y0]) (rest := []) h dX8_cells_78 hM (jgV w1158 w1160 w36 w84 w1161) rfl (ci := 8) rfl rfl nmX8_add rfl hh (Nat.le_of_ble_eq_true rfl) rfl kk hn
theorem rX8_cells_81 {l : Launch} {G : jG} {X : jX} {Q : State → Prop} {n hg nc : Nat} {ret : Option FieldType} {mu : jM} (h : jOk l G X cX8_cells 1 ret RX8 hg nc)
    (k1 : J l G X Q 1 86 [.ref 58] [.int 0, .int 2, .int 2, .int 0, .ref 58] mu n) :
    J l G X Q 1 81 [.ref 58] [] mu n := by
  refine J_aload_n h dX8_cells_81 rfl rfl ?_
  refine J_iconst h dX8_cells_82 ci_0 ?_
  refine J_iconst h dX8_cells_83 ci_2 ?_
  refine J_iconst h dX8_cells_84 ci_2 ?_
  refine J_iconst h dX8_cells_85 ci_0 ?_
  exact k1
theorem rX8_cells_86 {l : Launch} {G : jG} {X : jX} {Q : State → Prop} {n hg nc : Nat} {ret : Option FieldType} {mu : jM} {y0 : Int32} {y1 : Int32} {y2 : Int32} {y3 : Int32} {Qc : jM → Prop} {h' : Nat} (h : jOk l G X cX8_cells 1 ret RX8 hg nc) (hM : jCv l G yX8_add cX8_add 5 h' (.ref 58 :: [.int y3, .int y2, .int y1, .int y0]) mu Qc) (hh : h' < hg ∧ 5 ≤ 21) (hn : n ≤ nc)
    (kk : ∀ mu', Qc mu' → J l G X Q 1 89 [.ref 58] [] mu' n) :
    J l G X Q 1 86 [.ref 58] [.int y0, .int y1, .int y2, .int y3, .ref 58] mu n :=
  J_callV (As := [.int y3, .int y2, .int y1, .int y0]) (rest := []) h dX8_cells_86 hM (jgV w1158 w1160 w36 w84 w1161) rfl (ci := 8) rfl rfl nmX8_add rfl hh (Nat.le_of_ble_eq_true rfl) rfl kk hn
theorem rX8_cells_89 {l : Launch} {G : jG} {X : jX} {Q : State → Prop} {n hg nc : Nat} {ret : Option FieldType} {mu : jM} (h : jOk l G X cX8_cells 1 ret RX8 hg nc)
    (k1 : J l G X Q 1 95 [.ref 58] [.int 2, .int 1, .int 2, .int 8, .ref 58] mu n) :
    J l G X Q 1 89 [.ref 58] [] mu n := by
  refine J_aload_n h dX8_cells_89 rfl rfl ?_
  refine J_bipush h dX8_cells_90 cb_8 ?_
  refine J_iconst h dX8_cells_92 ci_2 ?_
  refine J_iconst h dX8_cells_93 ci_1 ?_
  refine J_iconst h dX8_cells_94 ci_2 ?_
  exact k1
theorem rX8_cells_95 {l : Launch} {G : jG} {X : jX} {Q : State → Prop} {n hg nc : Nat} {ret : Option FieldType} {mu : jM} {y0 : Int32} {y1 : Int32} {y2 : Int32} {y3 : Int32} {Qc : jM → Prop} {h' : Nat} (h : jOk l G X cX8_cells 1 ret RX8 hg nc) (hM : jCv l G yX8_add cX8_add 5 h' (.ref 58 :: [.int y3, .int y2, .int y1, .int y0]) mu Qc) (hh : h' < hg ∧ 5 ≤ 21) (hn : n ≤ nc)
    (kk : ∀ mu', Qc mu' → J l G X Q 1 98 [.ref 58] [] mu' n) :
    J l G X Q 1 95 [.ref 58] [.int y0, .int y1, .int y2, .int y3, .ref 58] mu n :=
  J_callV (As := [.int y3, .int y2, .int y1, .int y0]) (rest := []) h dX8_cells_95 hM (jgV w1158 w1160 w36 w84 w1161) rfl (ci := 8) rfl rfl nmX8_add rfl hh (Nat.le_of_ble_eq_true rfl) rfl kk hn
theorem rX8_cells_98 {l : Launch} {G : jG} {X : jX} {Q : State → Prop} {n hg nc : Nat} {ret : Option FieldType} {mu : jM} (h : jOk l G X cX8_cells 1 ret RX8 hg nc)
    (k1 : J l G X Q 1 104 [.ref 58] [.int 0, .int 2, .int 2, .int 9, .ref 58] mu n) :
    J l G X Q 1 98 [.ref 58] [] mu n := by
  refine J_aload_n h dX8_cells_98 rfl rfl ?_
  refine J_bipush h dX8_cells_99 cb_9 ?_
  refine J_iconst h dX8_cells_101 ci_2 ?_
  refine J_iconst h dX8_cells_102 ci_2 ?_
  refine J_iconst h dX8_cells_103 ci_0 ?_
  exact k1
theorem rX8_cells_104 {l : Launch} {G : jG} {X : jX} {Q : State → Prop} {n hg nc : Nat} {ret : Option FieldType} {mu : jM} {y0 : Int32} {y1 : Int32} {y2 : Int32} {y3 : Int32} {Qc : jM → Prop} {h' : Nat} (h : jOk l G X cX8_cells 1 ret RX8 hg nc) (hM : jCv l G yX8_add cX8_add 5 h' (.ref 58 :: [.int y3, .int y2, .int y1, .int y0]) mu Qc) (hh : h' < hg ∧ 5 ≤ 21) (hn : n ≤ nc)
    (kk : ∀ mu', Qc mu' → J l G X Q 1 107 [.ref 58] [] mu' n) :
    J l G X Q 1 104 [.ref 58] [.int y0, .int y1, .int y2, .int y3, .ref 58] mu n :=
  J_callV (As := [.int y3, .int y2, .int y1, .int y0]) (rest := []) h dX8_cells_104 hM (jgV w1158 w1160 w36 w84 w1161) rfl (ci := 8) rfl rfl nmX8_add rfl hh (Nat.le_of_ble_eq_true rfl) rfl kk hn
theorem rX8_cells_107 {l : Launch} {G : jG} {X : jX} {Q : State → Prop} {n hg nc : Nat} {ret : Option FieldType} {mu : jM} (h : jOk l G X cX8_cells 1 ret RX8 hg nc)
    (k1 : J l G X Q 1 113 [.ref 58] [.int 2, .int 3, .int 0, .int 10, .ref 58] mu n) :
    J l G X Q 1 107 [.ref 58] [] mu n := by
  refine J_aload_n h dX8_cells_107 rfl rfl ?_
  refine J_bipush h dX8_cells_108 cb_10 ?_
  refine J_iconst h dX8_cells_110 ci_0 ?_
  refine J_iconst h dX8_cells_111 ci_3 ?_
  refine J_iconst h dX8_cells_112 ci_2 ?_
  exact k1
theorem rX8_cells_113 {l : Launch} {G : jG} {X : jX} {Q : State → Prop} {n hg nc : Nat} {ret : Option FieldType} {mu : jM} {y0 : Int32} {y1 : Int32} {y2 : Int32} {y3 : Int32} {Qc : jM → Prop} {h' : Nat} (h : jOk l G X cX8_cells 1 ret RX8 hg nc) (hM : jCv l G yX8_add cX8_add 5 h' (.ref 58 :: [.int y3, .int y2, .int y1, .int y0]) mu Qc) (hh : h' < hg ∧ 5 ≤ 21) (hn : n ≤ nc)
    (kk : ∀ mu', Qc mu' → J l G X Q 1 116 [.ref 58] [] mu' n) :
    J l G X Q 1 113 [.ref 58] [.int y0, .int y1, .int y2, .int y3, .ref 58] mu n :=
  J_callV (As := [.int y3, .int y2, .int y1, .int y0]) (rest := []) h dX8_cells_113 hM (jgV w1158 w1160 w36 w84 w1161) rfl (ci := 8) rfl rfl nmX8_add rfl hh (Nat.le_of_ble_eq_true rfl) rfl kk hn
theorem rX8_cells_116 {l : Launch} {G : jG} {X : jX} {Q : State → Prop} {n hg nc : Nat} {ret : Option FieldType} {mu : jM} (h : jOk l G X cX8_cells 1 ret RX8 hg nc)
    (k1 : J l G X Q 1 121 [.ref 58] [.int 0, .int 0, .int 1, .int 0, .ref 58] mu n) :
    J l G X Q 1 116 [.ref 58] [] mu n := by
  refine J_aload_n h dX8_cells_116 rfl rfl ?_
  refine J_iconst h dX8_cells_117 ci_0 ?_
  refine J_iconst h dX8_cells_118 ci_1 ?_
  refine J_iconst h dX8_cells_119 ci_0 ?_
  refine J_iconst h dX8_cells_120 ci_0 ?_
  exact k1
theorem rX8_cells_121 {l : Launch} {G : jG} {X : jX} {Q : State → Prop} {n hg nc : Nat} {ret : Option FieldType} {mu : jM} {y0 : Int32} {y1 : Int32} {y2 : Int32} {y3 : Int32} {Qc : jM → Prop} {h' : Nat} (h : jOk l G X cX8_cells 1 ret RX8 hg nc) (hM : jCv l G yX8_add cX8_add 5 h' (.ref 58 :: [.int y3, .int y2, .int y1, .int y0]) mu Qc) (hh : h' < hg ∧ 5 ≤ 21) (hn : n ≤ nc)
    (kk : ∀ mu', Qc mu' → J l G X Q 1 124 [.ref 58] [] mu' n) :
    J l G X Q 1 121 [.ref 58] [.int y0, .int y1, .int y2, .int y3, .ref 58] mu n :=
  J_callV (As := [.int y3, .int y2, .int y1, .int y0]) (rest := []) h dX8_cells_121 hM (jgV w1158 w1160 w36 w84 w1161) rfl (ci := 8) rfl rfl nmX8_add rfl hh (Nat.le_of_ble_eq_true rfl) rfl kk hn
theorem rX8_cells_124 {l : Launch} {G : jG} {X : jX} {Q : State → Prop} {n hg nc : Nat} {ret : Option FieldType} {mu : jM} (h : jOk l G X cX8_cells 1 ret RX8 hg nc)
    (k1 : J l G X Q 1 130 [.ref 58] [.int 0, .int 0, .int 6, .int 0, .ref 58] mu n) :
    J l G X Q 1 124 [.ref 58] [] mu n := by
  refine J_aload_n h dX8_cells_124 rfl rfl ?_
  refine J_iconst h dX8_cells_125 ci_0 ?_
  refine J_bipush h dX8_cells_126 cb_6 ?_
  refine J_iconst h dX8_cells_128 ci_0 ?_
  refine J_iconst h dX8_cells_129 ci_0 ?_
  exact k1
theorem rX8_cells_130 {l : Launch} {G : jG} {X : jX} {Q : State → Prop} {n hg nc : Nat} {ret : Option FieldType} {mu : jM} {y0 : Int32} {y1 : Int32} {y2 : Int32} {y3 : Int32} {Qc : jM → Prop} {h' : Nat} (h : jOk l G X cX8_cells 1 ret RX8 hg nc) (hM : jCv l G yX8_add cX8_add 5 h' (.ref 58 :: [.int y3, .int y2, .int y1, .int y0]) mu Qc) (hh : h' < hg ∧ 5 ≤ 21) (hn : n ≤ nc)
    (kk : ∀ mu', Qc mu' → J l G X Q 1 133 [.ref 58] [] mu' n) :
    J l G X Q 1 130 [.ref 58] [.int y0, .int y1, .int y2, .int y3, .ref 58] mu n :=
  J_callV (As := [.int y3, .int y2, .int y1, .int y0]) (rest := []) h dX8_cells_130 hM (jgV w1158 w1160 w36 w84 w1161) rfl (ci := 8) rfl rfl nmX8_add rfl hh (Nat.le_of_ble_eq_true rfl) rfl kk hn
theorem rX8_cells_133 {l : Launch} {G : jG} {X : jX} {Q : State → Prop} {n hg nc : Nat} {ret : Option FieldType} {mu : jM} (h : jOk l G X cX8_cells 1 ret RX8 hg nc)
    (k1 : J l G X Q 1 139 [.ref 58] [.int 0, .int 1, .int 4, .int 15, .ref 58] mu n) :
    J l G X Q 1 133 [.ref 58] [] mu n := by
  refine J_aload_n h dX8_cells_133 rfl rfl ?_
  refine J_bipush h dX8_cells_134 cb_15 ?_
  refine J_iconst h dX8_cells_136 ci_4 ?_
  refine J_iconst h dX8_cells_137 ci_1 ?_
  refine J_iconst h dX8_cells_138 ci_0 ?_
  exact k1
theorem rX8_cells_139 {l : Launch} {G : jG} {X : jX} {Q : State → Prop} {n hg nc : Nat} {ret : Option FieldType} {mu : jM} {y0 : Int32} {y1 : Int32} {y2 : Int32} {y3 : Int32} {Qc : jM → Prop} {h' : Nat} (h : jOk l G X cX8_cells 1 ret RX8 hg nc) (hM : jCv l G yX8_add cX8_add 5 h' (.ref 58 :: [.int y3, .int y2, .int y1, .int y0]) mu Qc) (hh : h' < hg ∧ 5 ≤ 21) (hn : n ≤ nc)
    (kk : ∀ mu', Qc mu' → J l G X Q 1 142 [.ref 58] [] mu' n) :
    J l G X Q 1 139 [.ref 58] [.int y0, .int y1, .int y2, .int y3, .ref 58] mu n :=
  J_callV (As := [.int y3, .int y2, .int y1, .int y0]) (rest := []) h dX8_cells_139 hM (jgV w1158 w1160 w36 w84 w1161) rfl (ci := 8) rfl rfl nmX8_add rfl hh (Nat.le_of_ble_eq_true rfl) rfl kk hn
theorem rX8_cells_142 {l : Launch} {G : jG} {X : jX} {Q : State → Prop} {n hg nc : Nat} {ret : Option FieldType} {mu : jM} (h : jOk l G X cX8_cells 1 ret RX8 hg nc)
    (k1 : J l G X Q 1 148 [.ref 58] [.int 0, .int 0, .int 0, .int 18, .ref 58] mu n) :
    J l G X Q 1 142 [.ref 58] [] mu n := by
  refine J_aload_n h dX8_cells_142 rfl rfl ?_
  refine J_bipush h dX8_cells_143 cb_18 ?_
  refine J_iconst h dX8_cells_145 ci_0 ?_
  refine J_iconst h dX8_cells_146 ci_0 ?_
  refine J_iconst h dX8_cells_147 ci_0 ?_
  exact k1
theorem rX8_cells_148 {l : Launch} {G : jG} {X : jX} {Q : State → Prop} {n hg nc : Nat} {ret : Option FieldType} {mu : jM} {y0 : Int32} {y1 : Int32} {y2 : Int32} {y3 : Int32} {Qc : jM → Prop} {h' : Nat} (h : jOk l G X cX8_cells 1 ret RX8 hg nc) (hM : jCv l G yX8_add cX8_add 5 h' (.ref 58 :: [.int y3, .int y2, .int y1, .int y0]) mu Qc) (hh : h' < hg ∧ 5 ≤ 21) (hn : n ≤ nc)
    (kk : ∀ mu', Qc mu' → J l G X Q 1 151 [.ref 58] [] mu' n) :
    J l G X Q 1 148 [.ref 58] [.int y0, .int y1, .int y2, .int y3, .ref 58] mu n :=
  J_callV (As := [.int y3, .int y2, .int y1, .int y0]) (rest := []) h dX8_cells_148 hM (jgV w1158 w1160 w36 w84 w1161) rfl (ci := 8) rfl rfl nmX8_add rfl hh (Nat.le_of_ble_eq_true rfl) rfl kk hn
/-! LockstepNetModel.walks()V -/
theorem rX8_walks_0 {l : Launch} {G : jG} {X : jX} {Q : State → Prop} {n hg nc : Nat} {ret : Option FieldType} {mu : jM} (h : jOk l G X cX8_walks 1 ret RX8 hg nc)
    (k1 : J l G X Q 1 6 [.ref 58] [.int 0, .int 0, .int 5, .int 19, .ref 58] mu n) :
    J l G X Q 1 0 [.ref 58] [] mu n := by
  refine J_aload_n h dX8_walks_0 rfl rfl ?_
  refine J_bipush h dX8_walks_1 cb_19 ?_
  refine J_iconst h dX8_walks_3 ci_5 ?_
  refine J_iconst h dX8_walks_4 ci_0 ?_
  refine J_iconst h dX8_walks_5 ci_0 ?_
  exact k1
theorem rX8_walks_6 {l : Launch} {G : jG} {X : jX} {Q : State → Prop} {n hg nc : Nat} {ret : Option FieldType} {mu : jM} {y0 : Int32} {y1 : Int32} {y2 : Int32} {y3 : Int32} {Qc : jM → Prop} {h' : Nat} (h : jOk l G X cX8_walks 1 ret RX8 hg nc) (hM : jCv l G yX8_add cX8_add 5 h' (.ref 58 :: [.int y3, .int y2, .int y1, .int y0]) mu Qc) (hh : h' < hg ∧ 5 ≤ 21) (hn : n ≤ nc)
    (kk : ∀ mu', Qc mu' → J l G X Q 1 9 [.ref 58] [] mu' n) :
    J l G X Q 1 6 [.ref 58] [.int y0, .int y1, .int y2, .int y3, .ref 58] mu n :=
  J_callV (As := [.int y3, .int y2, .int y1, .int y0]) (rest := []) h dX8_walks_6 hM (jgV w1158 w1160 w36 w84 w1161) rfl (ci := 8) rfl rfl nmX8_add rfl hh (Nat.le_of_ble_eq_true rfl) rfl kk hn
theorem rX8_walks_9 {l : Launch} {G : jG} {X : jX} {Q : State → Prop} {n hg nc : Nat} {ret : Option FieldType} {mu : jM} (h : jOk l G X cX8_walks 1 ret RX8 hg nc)
    (k1 : J l G X Q 1 15 [.ref 58] [.int 0, .int 1, .int 6, .int 0, .ref 58] mu n) :
    J l G X Q 1 9 [.ref 58] [] mu n := by
  refine J_aload_n h dX8_walks_9 rfl rfl ?_
  refine J_iconst h dX8_walks_10 ci_0 ?_
  refine J_bipush h dX8_walks_11 cb_6 ?_
  refine J_iconst h dX8_walks_13 ci_1 ?_
  refine J_iconst h dX8_walks_14 ci_0 ?_
  exact k1
theorem rX8_walks_15 {l : Launch} {G : jG} {X : jX} {Q : State → Prop} {n hg nc : Nat} {ret : Option FieldType} {mu : jM} {y0 : Int32} {y1 : Int32} {y2 : Int32} {y3 : Int32} {Qc : jM → Prop} {h' : Nat} (h : jOk l G X cX8_walks 1 ret RX8 hg nc) (hM : jCv l G yX8_add cX8_add 5 h' (.ref 58 :: [.int y3, .int y2, .int y1, .int y0]) mu Qc) (hh : h' < hg ∧ 5 ≤ 21) (hn : n ≤ nc)
    (kk : ∀ mu', Qc mu' → J l G X Q 1 18 [.ref 58] [] mu' n) :
    J l G X Q 1 15 [.ref 58] [.int y0, .int y1, .int y2, .int y3, .ref 58] mu n :=
  J_callV (As := [.int y3, .int y2, .int y1, .int y0]) (rest := []) h dX8_walks_15 hM (jgV w1158 w1160 w36 w84 w1161) rfl (ci := 8) rfl rfl nmX8_add rfl hh (Nat.le_of_ble_eq_true rfl) rfl kk hn
theorem rX8_walks_18 {l : Launch} {G : jG} {X : jX} {Q : State → Prop} {n hg nc : Nat} {ret : Option FieldType} {mu : jM} (h : jOk l G X cX8_walks 1 ret RX8 hg nc)
    (k1 : J l G X Q 1 25 [.ref 58] [.int 5, .int 6, .int 5, .int 7, .ref 58] mu n) :
    J l G X Q 1 18 [.ref 58] [] mu n := by
  refine J_aload_n h dX8_walks_18 rfl rfl ?_
  refine J_bipush h dX8_walks_19 cb_7 ?_
  refine J_iconst h dX8_walks_21 ci_5 ?_
  refine J_bipush h dX8_walks_22 cb_6 ?_
  refine J_iconst h dX8_walks_24 ci_5 ?_
  exact k1
theorem rX8_walks_25 {l : Launch} {G : jG} {X : jX} {Q : State → Prop} {n hg nc : Nat} {ret : Option FieldType} {mu : jM} {y0 : Int32} {y1 : Int32} {y2 : Int32} {y3 : Int32} {Qc : jM → Prop} {h' : Nat} (h : jOk l G X cX8_walks 1 ret RX8 hg nc) (hM : jCv l G yX8_add cX8_add 5 h' (.ref 58 :: [.int y3, .int y2, .int y1, .int y0]) mu Qc) (hh : h' < hg ∧ 5 ≤ 21) (hn : n ≤ nc)
    (kk : ∀ mu', Qc mu' → J l G X Q 1 28 [.ref 58] [] mu' n) :
    J l G X Q 1 25 [.ref 58] [.int y0, .int y1, .int y2, .int y3, .ref 58] mu n :=
  J_callV (As := [.int y3, .int y2, .int y1, .int y0]) (rest := []) h dX8_walks_25 hM (jgV w1158 w1160 w36 w84 w1161) rfl (ci := 8) rfl rfl nmX8_add rfl hh (Nat.le_of_ble_eq_true rfl) rfl kk hn
theorem rX8_walks_28 {l : Launch} {G : jG} {X : jX} {Q : State → Prop} {n hg nc : Nat} {ret : Option FieldType} {mu : jM} (h : jOk l G X cX8_walks 1 ret RX8 hg nc)
    (k1 : J l G X Q 1 34 [.ref 58] [.int 0, .int 5, .int 5, .int 14, .ref 58] mu n) :
    J l G X Q 1 28 [.ref 58] [] mu n := by
  refine J_aload_n h dX8_walks_28 rfl rfl ?_
  refine J_bipush h dX8_walks_29 cb_14 ?_
  refine J_iconst h dX8_walks_31 ci_5 ?_
  refine J_iconst h dX8_walks_32 ci_5 ?_
  refine J_iconst h dX8_walks_33 ci_0 ?_
  exact k1
theorem rX8_walks_34 {l : Launch} {G : jG} {X : jX} {Q : State → Prop} {n hg nc : Nat} {ret : Option FieldType} {mu : jM} {y0 : Int32} {y1 : Int32} {y2 : Int32} {y3 : Int32} {Qc : jM → Prop} {h' : Nat} (h : jOk l G X cX8_walks 1 ret RX8 hg nc) (hM : jCv l G yX8_add cX8_add 5 h' (.ref 58 :: [.int y3, .int y2, .int y1, .int y0]) mu Qc) (hh : h' < hg ∧ 5 ≤ 21) (hn : n ≤ nc)
    (kk : ∀ mu', Qc mu' → J l G X Q 1 37 [.ref 58] [] mu' n) :
    J l G X Q 1 34 [.ref 58] [.int y0, .int y1, .int y2, .int y3, .ref 58] mu n :=
  J_callV (As := [.int y3, .int y2, .int y1, .int y0]) (rest := []) h dX8_walks_34 hM (jgV w1158 w1160 w36 w84 w1161) rfl (ci := 8) rfl rfl nmX8_add rfl hh (Nat.le_of_ble_eq_true rfl) rfl kk hn
theorem rX8_walks_37 {l : Launch} {G : jG} {X : jX} {Q : State → Prop} {n hg nc : Nat} {ret : Option FieldType} {mu : jM} (h : jOk l G X cX8_walks 1 ret RX8 hg nc)
    (k1 : J l G X Q 1 42 [.ref 58] [.int 0, .int 0, .int 1, .int 0, .ref 58] mu n) :
    J l G X Q 1 37 [.ref 58] [] mu n := by
  refine J_aload_n h dX8_walks_37 rfl rfl ?_
  refine J_iconst h dX8_walks_38 ci_0 ?_
  refine J_iconst h dX8_walks_39 ci_1 ?_
  refine J_iconst h dX8_walks_40 ci_0 ?_
  refine J_iconst h dX8_walks_41 ci_0 ?_
  exact k1
theorem rX8_walks_42 {l : Launch} {G : jG} {X : jX} {Q : State → Prop} {n hg nc : Nat} {ret : Option FieldType} {mu : jM} {y0 : Int32} {y1 : Int32} {y2 : Int32} {y3 : Int32} {Qc : jM → Prop} {h' : Nat} (h : jOk l G X cX8_walks 1 ret RX8 hg nc) (hM : jCv l G yX8_add cX8_add 5 h' (.ref 58 :: [.int y3, .int y2, .int y1, .int y0]) mu Qc) (hh : h' < hg ∧ 5 ≤ 21) (hn : n ≤ nc)
    (kk : ∀ mu', Qc mu' → J l G X Q 1 45 [.ref 58] [] mu' n) :
    J l G X Q 1 42 [.ref 58] [.int y0, .int y1, .int y2, .int y3, .ref 58] mu n :=
  J_callV (As := [.int y3, .int y2, .int y1, .int y0]) (rest := []) h dX8_walks_42 hM (jgV w1158 w1160 w36 w84 w1161) rfl (ci := 8) rfl rfl nmX8_add rfl hh (Nat.le_of_ble_eq_true rfl) rfl kk hn
theorem rX8_walks_45 {l : Launch} {G : jG} {X : jX} {Q : State → Prop} {n hg nc : Nat} {ret : Option FieldType} {mu : jM} (h : jOk l G X cX8_walks 1 ret RX8 hg nc)
    (k1 : J l G X Q 1 51 [.ref 58] [.int 0, .int 2, .int 4, .int 15, .ref 58] mu n) :
    J l G X Q 1 45 [.ref 58] [] mu n := by
  refine J_aload_n h dX8_walks_45 rfl rfl ?_
  refine J_bipush h dX8_walks_46 cb_15 ?_
  refine J_iconst h dX8_walks_48 ci_4 ?_
  refine J_iconst h dX8_walks_49 ci_2 ?_
  refine J_iconst h dX8_walks_50 ci_0 ?_
  exact k1
theorem rX8_walks_51 {l : Launch} {G : jG} {X : jX} {Q : State → Prop} {n hg nc : Nat} {ret : Option FieldType} {mu : jM} {y0 : Int32} {y1 : Int32} {y2 : Int32} {y3 : Int32} {Qc : jM → Prop} {h' : Nat} (h : jOk l G X cX8_walks 1 ret RX8 hg nc) (hM : jCv l G yX8_add cX8_add 5 h' (.ref 58 :: [.int y3, .int y2, .int y1, .int y0]) mu Qc) (hh : h' < hg ∧ 5 ≤ 21) (hn : n ≤ nc)
    (kk : ∀ mu', Qc mu' → J l G X Q 1 54 [.ref 58] [] mu' n) :
    J l G X Q 1 51 [.ref 58] [.int y0, .int y1, .int y2, .int y3, .ref 58] mu n :=
  J_callV (As := [.int y3, .int y2, .int y1, .int y0]) (rest := []) h dX8_walks_51 hM (jgV w1158 w1160 w36 w84 w1161) rfl (ci := 8) rfl rfl nmX8_add rfl hh (Nat.le_of_ble_eq_true rfl) rfl kk hn
theorem rX8_walks_54 {l : Launch} {G : jG} {X : jX} {Q : State → Prop} {n hg nc : Nat} {ret : Option FieldType} {mu : jM} (h : jOk l G X cX8_walks 1 ret RX8 hg nc)
    (k1 : J l G X Q 1 60 [.ref 58] [.int 0, .int 0, .int 2, .int 17, .ref 58] mu n) :
    J l G X Q 1 54 [.ref 58] [] mu n := by
  refine J_aload_n h dX8_walks_54 rfl rfl ?_
  refine J_bipush h dX8_walks_55 cb_17 ?_
  refine J_iconst h dX8_walks_57 ci_2 ?_
  refine J_iconst h dX8_walks_58 ci_0 ?_
  refine J_iconst h dX8_walks_59 ci_0 ?_
  exact k1
theorem rX8_walks_60 {l : Launch} {G : jG} {X : jX} {Q : State → Prop} {n hg nc : Nat} {ret : Option FieldType} {mu : jM} {y0 : Int32} {y1 : Int32} {y2 : Int32} {y3 : Int32} {Qc : jM → Prop} {h' : Nat} (h : jOk l G X cX8_walks 1 ret RX8 hg nc) (hM : jCv l G yX8_add cX8_add 5 h' (.ref 58 :: [.int y3, .int y2, .int y1, .int y0]) mu Qc) (hh : h' < hg ∧ 5 ≤ 21) (hn : n ≤ nc)
    (kk : ∀ mu', Qc mu' → J l G X Q 1 63 [.ref 58] [] mu' n) :
    J l G X Q 1 60 [.ref 58] [.int y0, .int y1, .int y2, .int y3, .ref 58] mu n :=
  J_callV (As := [.int y3, .int y2, .int y1, .int y0]) (rest := []) h dX8_walks_60 hM (jgV w1158 w1160 w36 w84 w1161) rfl (ci := 8) rfl rfl nmX8_add rfl hh (Nat.le_of_ble_eq_true rfl) rfl kk hn
theorem rX8_walks_63 {l : Launch} {G : jG} {X : jX} {Q : State → Prop} {n hg nc : Nat} {ret : Option FieldType} {mu : jM} (h : jOk l G X cX8_walks 1 ret RX8 hg nc)
    (k1 : J l G X Q 1 68 [.ref 58] [.int 2, .int 1, .int 1, .int 2, .ref 58] mu n) :
    J l G X Q 1 63 [.ref 58] [] mu n := by
  refine J_aload_n h dX8_walks_63 rfl rfl ?_
  refine J_iconst h dX8_walks_64 ci_2 ?_
  refine J_iconst h dX8_walks_65 ci_1 ?_
  refine J_iconst h dX8_walks_66 ci_1 ?_
  refine J_iconst h dX8_walks_67 ci_2 ?_
  exact k1
theorem rX8_walks_68 {l : Launch} {G : jG} {X : jX} {Q : State → Prop} {n hg nc : Nat} {ret : Option FieldType} {mu : jM} {y0 : Int32} {y1 : Int32} {y2 : Int32} {y3 : Int32} {Qc : jM → Prop} {h' : Nat} (h : jOk l G X cX8_walks 1 ret RX8 hg nc) (hM : jCv l G yX8_add cX8_add 5 h' (.ref 58 :: [.int y3, .int y2, .int y1, .int y0]) mu Qc) (hh : h' < hg ∧ 5 ≤ 21) (hn : n ≤ nc)
    (kk : ∀ mu', Qc mu' → J l G X Q 1 71 [.ref 58] [] mu' n) :
    J l G X Q 1 68 [.ref 58] [.int y0, .int y1, .int y2, .int y3, .ref 58] mu n :=
  J_callV (As := [.int y3, .int y2, .int y1, .int y0]) (rest := []) h dX8_walks_68 hM (jgV w1158 w1160 w36 w84 w1161) rfl (ci := 8) rfl rfl nmX8_add rfl hh (Nat.le_of_ble_eq_true rfl) rfl kk hn
theorem rX8_walks_71 {l : Launch} {G : jG} {X : jX} {Q : State → Prop} {n hg nc : Nat} {ret : Option FieldType} {mu : jM} (h : jOk l G X cX8_walks 1 ret RX8 hg nc)
    (k1 : J l G X Q 1 76 [.ref 58] [.int 0, .int 1, .int 0, .int 1, .ref 58] mu n) :
    J l G X Q 1 71 [.ref 58] [] mu n := by
  refine J_aload_n h dX8_walks_71 rfl rfl ?_
  refine J_iconst h dX8_walks_72 ci_1 ?_
  refine J_iconst h dX8_walks_73 ci_0 ?_
  refine J_iconst h dX8_walks_74 ci_1 ?_
  refine J_iconst h dX8_walks_75 ci_0 ?_
  exact k1
theorem rX8_walks_76 {l : Launch} {G : jG} {X : jX} {Q : State → Prop} {n hg nc : Nat} {ret : Option FieldType} {mu : jM} {y0 : Int32} {y1 : Int32} {y2 : Int32} {y3 : Int32} {Qc : jM → Prop} {h' : Nat} (h : jOk l G X cX8_walks 1 ret RX8 hg nc) (hM : jCv l G yX8_add cX8_add 5 h' (.ref 58 :: [.int y3, .int y2, .int y1, .int y0]) mu Qc) (hh : h' < hg ∧ 5 ≤ 21) (hn : n ≤ nc)
    (kk : ∀ mu', Qc mu' → J l G X Q 1 79 [.ref 58] [] mu' n) :
    J l G X Q 1 76 [.ref 58] [.int y0, .int y1, .int y2, .int y3, .ref 58] mu n :=
  J_callV (As := [.int y3, .int y2, .int y1, .int y0]) (rest := []) h dX8_walks_76 hM (jgV w1158 w1160 w36 w84 w1161) rfl (ci := 8) rfl rfl nmX8_add rfl hh (Nat.le_of_ble_eq_true rfl) rfl kk hn
theorem rX8_walks_79 {l : Launch} {G : jG} {X : jX} {Q : State → Prop} {n hg nc : Nat} {ret : Option FieldType} {mu : jM} (h : jOk l G X cX8_walks 1 ret RX8 hg nc)
    (k1 : J l G X Q 1 85 [.ref 58] [.int 0, .int 1, .int 4, .int 15, .ref 58] mu n) :
    J l G X Q 1 79 [.ref 58] [] mu n := by
  refine J_aload_n h dX8_walks_79 rfl rfl ?_
  refine J_bipush h dX8_walks_80 cb_15 ?_
  refine J_iconst h dX8_walks_82 ci_4 ?_
  refine J_iconst h dX8_walks_83 ci_1 ?_
  refine J_iconst h dX8_walks_84 ci_0 ?_
  exact k1
theorem rX8_walks_85 {l : Launch} {G : jG} {X : jX} {Q : State → Prop} {n hg nc : Nat} {ret : Option FieldType} {mu : jM} {y0 : Int32} {y1 : Int32} {y2 : Int32} {y3 : Int32} {Qc : jM → Prop} {h' : Nat} (h : jOk l G X cX8_walks 1 ret RX8 hg nc) (hM : jCv l G yX8_add cX8_add 5 h' (.ref 58 :: [.int y3, .int y2, .int y1, .int y0]) mu Qc) (hh : h' < hg ∧ 5 ≤ 21) (hn : n ≤ nc)
    (kk : ∀ mu', Qc mu' → J l G X Q 1 88 [.ref 58] [] mu' n) :
    J l G X Q 1 85 [.ref 58] [.int y0, .int y1, .int y2, .int y3, .ref 58] mu n :=
  J_callV (As := [.int y3, .int y2, .int y1, .int y0]) (rest := []) h dX8_walks_85 hM (jgV w1158 w1160 w36 w84 w1161) rfl (ci := 8) rfl rfl nmX8_add rfl hh (Nat.le_of_ble_eq_true rfl) rfl kk hn
theorem rX8_walks_88 {l : Launch} {G : jG} {X : jX} {Q : State → Prop} {n hg nc : Nat} {ret : Option FieldType} {mu : jM} (h : jOk l G X cX8_walks 1 ret RX8 hg nc)
    (k1 : J l G X Q 1 94 [.ref 58] [.int 0, .int 0, .int 0, .int 18, .ref 58] mu n) :
    J l G X Q 1 88 [.ref 58] [] mu n := by
  refine J_aload_n h dX8_walks_88 rfl rfl ?_
  refine J_bipush h dX8_walks_89 cb_18 ?_
  refine J_iconst h dX8_walks_91 ci_0 ?_
  refine J_iconst h dX8_walks_92 ci_0 ?_
  refine J_iconst h dX8_walks_93 ci_0 ?_
  exact k1
theorem rX8_walks_94 {l : Launch} {G : jG} {X : jX} {Q : State → Prop} {n hg nc : Nat} {ret : Option FieldType} {mu : jM} {y0 : Int32} {y1 : Int32} {y2 : Int32} {y3 : Int32} {Qc : jM → Prop} {h' : Nat} (h : jOk l G X cX8_walks 1 ret RX8 hg nc) (hM : jCv l G yX8_add cX8_add 5 h' (.ref 58 :: [.int y3, .int y2, .int y1, .int y0]) mu Qc) (hh : h' < hg ∧ 5 ≤ 21) (hn : n ≤ nc)
    (kk : ∀ mu', Qc mu' → J l G X Q 1 97 [.ref 58] [] mu' n) :
    J l G X Q 1 94 [.ref 58] [.int y0, .int y1, .int y2, .int y3, .ref 58] mu n :=
  J_callV (As := [.int y3, .int y2, .int y1, .int y0]) (rest := []) h dX8_walks_94 hM (jgV w1158 w1160 w36 w84 w1161) rfl (ci := 8) rfl rfl nmX8_add rfl hh (Nat.le_of_ble_eq_true rfl) rfl kk hn
/-! LockstepNetModel.colours()V -/
theorem rX8_colours_0 {l : Launch} {G : jG} {X : jX} {Q : State → Prop} {n hg nc : Nat} {ret : Option FieldType} {mu : jM} (h : jOk l G X cX8_colours 1 ret RX8 hg nc)
    (k1 : J l G X Q 1 5 [.ref 58] [.int 0, .int 0, .int 3, .int 0, .ref 58] mu n) :
    J l G X Q 1 0 [.ref 58] [] mu n := by
  refine J_aload_n h dX8_colours_0 rfl rfl ?_
  refine J_iconst h dX8_colours_1 ci_0 ?_
  refine J_iconst h dX8_colours_2 ci_3 ?_
  refine J_iconst h dX8_colours_3 ci_0 ?_
  refine J_iconst h dX8_colours_4 ci_0 ?_
  exact k1
theorem rX8_colours_5 {l : Launch} {G : jG} {X : jX} {Q : State → Prop} {n hg nc : Nat} {ret : Option FieldType} {mu : jM} {y0 : Int32} {y1 : Int32} {y2 : Int32} {y3 : Int32} {Qc : jM → Prop} {h' : Nat} (h : jOk l G X cX8_colours 1 ret RX8 hg nc) (hM : jCv l G yX8_add cX8_add 5 h' (.ref 58 :: [.int y3, .int y2, .int y1, .int y0]) mu Qc) (hh : h' < hg ∧ 5 ≤ 21) (hn : n ≤ nc)
    (kk : ∀ mu', Qc mu' → J l G X Q 1 8 [.ref 58] [] mu' n) :
    J l G X Q 1 5 [.ref 58] [.int y0, .int y1, .int y2, .int y3, .ref 58] mu n :=
  J_callV (As := [.int y3, .int y2, .int y1, .int y0]) (rest := []) h dX8_colours_5 hM (jgV w1158 w1160 w36 w84 w1161) rfl (ci := 8) rfl rfl nmX8_add rfl hh (Nat.le_of_ble_eq_true rfl) rfl kk hn
theorem rX8_colours_8 {l : Launch} {G : jG} {X : jX} {Q : State → Prop} {n hg nc : Nat} {ret : Option FieldType} {mu : jM} (h : jOk l G X cX8_colours 1 ret RX8 hg nc)
    (k1 : J l G X Q 1 13 [.ref 58] [.int 0, .int 0, .int 5, .int 0, .ref 58] mu n) :
    J l G X Q 1 8 [.ref 58] [] mu n := by
  refine J_aload_n h dX8_colours_8 rfl rfl ?_
  refine J_iconst h dX8_colours_9 ci_0 ?_
  refine J_iconst h dX8_colours_10 ci_5 ?_
  refine J_iconst h dX8_colours_11 ci_0 ?_
  refine J_iconst h dX8_colours_12 ci_0 ?_
  exact k1
theorem rX8_colours_13 {l : Launch} {G : jG} {X : jX} {Q : State → Prop} {n hg nc : Nat} {ret : Option FieldType} {mu : jM} {y0 : Int32} {y1 : Int32} {y2 : Int32} {y3 : Int32} {Qc : jM → Prop} {h' : Nat} (h : jOk l G X cX8_colours 1 ret RX8 hg nc) (hM : jCv l G yX8_add cX8_add 5 h' (.ref 58 :: [.int y3, .int y2, .int y1, .int y0]) mu Qc) (hh : h' < hg ∧ 5 ≤ 21) (hn : n ≤ nc)
    (kk : ∀ mu', Qc mu' → J l G X Q 1 16 [.ref 58] [] mu' n) :
    J l G X Q 1 13 [.ref 58] [.int y0, .int y1, .int y2, .int y3, .ref 58] mu n :=
  J_callV (As := [.int y3, .int y2, .int y1, .int y0]) (rest := []) h dX8_colours_13 hM (jgV w1158 w1160 w36 w84 w1161) rfl (ci := 8) rfl rfl nmX8_add rfl hh (Nat.le_of_ble_eq_true rfl) rfl kk hn
theorem rX8_colours_16 {l : Launch} {G : jG} {X : jX} {Q : State → Prop} {n hg nc : Nat} {ret : Option FieldType} {mu : jM} (h : jOk l G X cX8_colours 1 ret RX8 hg nc)
    (k1 : J l G X Q 1 23 [.ref 58] [.int 0, .int 9, .int 4, .int 15, .ref 58] mu n) :
    J l G X Q 1 16 [.ref 58] [] mu n := by
  refine J_aload_n h dX8_colours_16 rfl rfl ?_
  refine J_bipush h dX8_colours_17 cb_15 ?_
  refine J_iconst h dX8_colours_19 ci_4 ?_
  refine J_bipush h dX8_colours_20 cb_9 ?_
  refine J_iconst h dX8_colours_22 ci_0 ?_
  exact k1
theorem rX8_colours_23 {l : Launch} {G : jG} {X : jX} {Q : State → Prop} {n hg nc : Nat} {ret : Option FieldType} {mu : jM} {y0 : Int32} {y1 : Int32} {y2 : Int32} {y3 : Int32} {Qc : jM → Prop} {h' : Nat} (h : jOk l G X cX8_colours 1 ret RX8 hg nc) (hM : jCv l G yX8_add cX8_add 5 h' (.ref 58 :: [.int y3, .int y2, .int y1, .int y0]) mu Qc) (hh : h' < hg ∧ 5 ≤ 21) (hn : n ≤ nc)
    (kk : ∀ mu', Qc mu' → J l G X Q 1 26 [.ref 58] [] mu' n) :
    J l G X Q 1 23 [.ref 58] [.int y0, .int y1, .int y2, .int y3, .ref 58] mu n :=
  J_callV (As := [.int y3, .int y2, .int y1, .int y0]) (rest := []) h dX8_colours_23 hM (jgV w1158 w1160 w36 w84 w1161) rfl (ci := 8) rfl rfl nmX8_add rfl hh (Nat.le_of_ble_eq_true rfl) rfl kk hn
theorem rX8_colours_26 {l : Launch} {G : jG} {X : jX} {Q : State → Prop} {n hg nc : Nat} {ret : Option FieldType} {mu : jM} (h : jOk l G X cX8_colours 1 ret RX8 hg nc)
    (k1 : J l G X Q 1 32 [.ref 58] [.int 0, .int 0, .int 2, .int 17, .ref 58] mu n) :
    J l G X Q 1 26 [.ref 58] [] mu n := by
  refine J_aload_n h dX8_colours_26 rfl rfl ?_
  refine J_bipush h dX8_colours_27 cb_17 ?_
  refine J_iconst h dX8_colours_29 ci_2 ?_
  refine J_iconst h dX8_colours_30 ci_0 ?_
  refine J_iconst h dX8_colours_31 ci_0 ?_
  exact k1
theorem rX8_colours_32 {l : Launch} {G : jG} {X : jX} {Q : State → Prop} {n hg nc : Nat} {ret : Option FieldType} {mu : jM} {y0 : Int32} {y1 : Int32} {y2 : Int32} {y3 : Int32} {Qc : jM → Prop} {h' : Nat} (h : jOk l G X cX8_colours 1 ret RX8 hg nc) (hM : jCv l G yX8_add cX8_add 5 h' (.ref 58 :: [.int y3, .int y2, .int y1, .int y0]) mu Qc) (hh : h' < hg ∧ 5 ≤ 21) (hn : n ≤ nc)
    (kk : ∀ mu', Qc mu' → J l G X Q 1 35 [.ref 58] [] mu' n) :
    J l G X Q 1 32 [.ref 58] [.int y0, .int y1, .int y2, .int y3, .ref 58] mu n :=
  J_callV (As := [.int y3, .int y2, .int y1, .int y0]) (rest := []) h dX8_colours_32 hM (jgV w1158 w1160 w36 w84 w1161) rfl (ci := 8) rfl rfl nmX8_add rfl hh (Nat.le_of_ble_eq_true rfl) rfl kk hn
theorem rX8_colours_35 {l : Launch} {G : jG} {X : jX} {Q : State → Prop} {n hg nc : Nat} {ret : Option FieldType} {mu : jM} (h : jOk l G X cX8_colours 1 ret RX8 hg nc)
    (k1 : J l G X Q 1 42 [.ref 58] [.int 2, .int 3, .int 6, .int 7, .ref 58] mu n) :
    J l G X Q 1 35 [.ref 58] [] mu n := by
  refine J_aload_n h dX8_colours_35 rfl rfl ?_
  refine J_bipush h dX8_colours_36 cb_7 ?_
  refine J_bipush h dX8_colours_38 cb_6 ?_
  refine J_iconst h dX8_colours_40 ci_3 ?_
  refine J_iconst h dX8_colours_41 ci_2 ?_
  exact k1
theorem rX8_colours_42 {l : Launch} {G : jG} {X : jX} {Q : State → Prop} {n hg nc : Nat} {ret : Option FieldType} {mu : jM} {y0 : Int32} {y1 : Int32} {y2 : Int32} {y3 : Int32} {Qc : jM → Prop} {h' : Nat} (h : jOk l G X cX8_colours 1 ret RX8 hg nc) (hM : jCv l G yX8_add cX8_add 5 h' (.ref 58 :: [.int y3, .int y2, .int y1, .int y0]) mu Qc) (hh : h' < hg ∧ 5 ≤ 21) (hn : n ≤ nc)
    (kk : ∀ mu', Qc mu' → J l G X Q 1 45 [.ref 58] [] mu' n) :
    J l G X Q 1 42 [.ref 58] [.int y0, .int y1, .int y2, .int y3, .ref 58] mu n :=
  J_callV (As := [.int y3, .int y2, .int y1, .int y0]) (rest := []) h dX8_colours_42 hM (jgV w1158 w1160 w36 w84 w1161) rfl (ci := 8) rfl rfl nmX8_add rfl hh (Nat.le_of_ble_eq_true rfl) rfl kk hn
theorem rX8_colours_45 {l : Launch} {G : jG} {X : jX} {Q : State → Prop} {n hg nc : Nat} {ret : Option FieldType} {mu : jM} (h : jOk l G X cX8_colours 1 ret RX8 hg nc)
    (k1 : J l G X Q 1 52 [.ref 58] [.int 0, .int 1, .int 6, .int 14, .ref 58] mu n) :
    J l G X Q 1 45 [.ref 58] [] mu n := by
  refine J_aload_n h dX8_colours_45 rfl rfl ?_
  refine J_bipush h dX8_colours_46 cb_14 ?_
  refine J_bipush h dX8_colours_48 cb_6 ?_
  refine J_iconst h dX8_colours_50 ci_1 ?_
  refine J_iconst h dX8_colours_51 ci_0 ?_
  exact k1
theorem rX8_colours_52 {l : Launch} {G : jG} {X : jX} {Q : State → Prop} {n hg nc : Nat} {ret : Option FieldType} {mu : jM} {y0 : Int32} {y1 : Int32} {y2 : Int32} {y3 : Int32} {Qc : jM → Prop} {h' : Nat} (h : jOk l G X cX8_colours 1 ret RX8 hg nc) (hM : jCv l G yX8_add cX8_add 5 h' (.ref 58 :: [.int y3, .int y2, .int y1, .int y0]) mu Qc) (hh : h' < hg ∧ 5 ≤ 21) (hn : n ≤ nc)
    (kk : ∀ mu', Qc mu' → J l G X Q 1 55 [.ref 58] [] mu' n) :
    J l G X Q 1 52 [.ref 58] [.int y0, .int y1, .int y2, .int y3, .ref 58] mu n :=
  J_callV (As := [.int y3, .int y2, .int y1, .int y0]) (rest := []) h dX8_colours_52 hM (jgV w1158 w1160 w36 w84 w1161) rfl (ci := 8) rfl rfl nmX8_add rfl hh (Nat.le_of_ble_eq_true rfl) rfl kk hn
theorem rX8_colours_55 {l : Launch} {G : jG} {X : jX} {Q : State → Prop} {n hg nc : Nat} {ret : Option FieldType} {mu : jM} (h : jOk l G X cX8_colours 1 ret RX8 hg nc)
    (k1 : J l G X Q 1 61 [.ref 58] [.int 2, .int 5, .int 5, .int 6, .ref 58] mu n) :
    J l G X Q 1 55 [.ref 58] [] mu n := by
  refine J_aload_n h dX8_colours_55 rfl rfl ?_
  refine J_bipush h dX8_colours_56 cb_6 ?_
  refine J_iconst h dX8_colours_58 ci_5 ?_
  refine J_iconst h dX8_colours_59 ci_5 ?_
  refine J_iconst h dX8_colours_60 ci_2 ?_
  exact k1
theorem rX8_colours_61 {l : Launch} {G : jG} {X : jX} {Q : State → Prop} {n hg nc : Nat} {ret : Option FieldType} {mu : jM} {y0 : Int32} {y1 : Int32} {y2 : Int32} {y3 : Int32} {Qc : jM → Prop} {h' : Nat} (h : jOk l G X cX8_colours 1 ret RX8 hg nc) (hM : jCv l G yX8_add cX8_add 5 h' (.ref 58 :: [.int y3, .int y2, .int y1, .int y0]) mu Qc) (hh : h' < hg ∧ 5 ≤ 21) (hn : n ≤ nc)
    (kk : ∀ mu', Qc mu' → J l G X Q 1 64 [.ref 58] [] mu' n) :
    J l G X Q 1 61 [.ref 58] [.int y0, .int y1, .int y2, .int y3, .ref 58] mu n :=
  J_callV (As := [.int y3, .int y2, .int y1, .int y0]) (rest := []) h dX8_colours_61 hM (jgV w1158 w1160 w36 w84 w1161) rfl (ci := 8) rfl rfl nmX8_add rfl hh (Nat.le_of_ble_eq_true rfl) rfl kk hn
theorem rX8_colours_64 {l : Launch} {G : jG} {X : jX} {Q : State → Prop} {n hg nc : Nat} {ret : Option FieldType} {mu : jM} (h : jOk l G X cX8_colours 1 ret RX8 hg nc)
    (k1 : J l G X Q 1 71 [.ref 58] [.int 3, .int 2, .int 6, .int 7, .ref 58] mu n) :
    J l G X Q 1 64 [.ref 58] [] mu n := by
  refine J_aload_n h dX8_colours_64 rfl rfl ?_
  refine J_bipush h dX8_colours_65 cb_7 ?_
  refine J_bipush h dX8_colours_67 cb_6 ?_
  refine J_iconst h dX8_colours_69 ci_2 ?_
  refine J_iconst h dX8_colours_70 ci_3 ?_
  exact k1
theorem rX8_colours_71 {l : Launch} {G : jG} {X : jX} {Q : State → Prop} {n hg nc : Nat} {ret : Option FieldType} {mu : jM} {y0 : Int32} {y1 : Int32} {y2 : Int32} {y3 : Int32} {Qc : jM → Prop} {h' : Nat} (h : jOk l G X cX8_colours 1 ret RX8 hg nc) (hM : jCv l G yX8_add cX8_add 5 h' (.ref 58 :: [.int y3, .int y2, .int y1, .int y0]) mu Qc) (hh : h' < hg ∧ 5 ≤ 21) (hn : n ≤ nc)
    (kk : ∀ mu', Qc mu' → J l G X Q 1 74 [.ref 58] [] mu' n) :
    J l G X Q 1 71 [.ref 58] [.int y0, .int y1, .int y2, .int y3, .ref 58] mu n :=
  J_callV (As := [.int y3, .int y2, .int y1, .int y0]) (rest := []) h dX8_colours_71 hM (jgV w1158 w1160 w36 w84 w1161) rfl (ci := 8) rfl rfl nmX8_add rfl hh (Nat.le_of_ble_eq_true rfl) rfl kk hn
theorem rX8_colours_74 {l : Launch} {G : jG} {X : jX} {Q : State → Prop} {n hg nc : Nat} {ret : Option FieldType} {mu : jM} (h : jOk l G X cX8_colours 1 ret RX8 hg nc)
    (k1 : J l G X Q 1 81 [.ref 58] [.int 0, .int 3, .int 6, .int 14, .ref 58] mu n) :
    J l G X Q 1 74 [.ref 58] [] mu n := by
  refine J_aload_n h dX8_colours_74 rfl rfl ?_
  refine J_bipush h dX8_colours_75 cb_14 ?_
  refine J_bipush h dX8_colours_77 cb_6 ?_
  refine J_iconst h dX8_colours_79 ci_3 ?_
  refine J_iconst h dX8_colours_80 ci_0 ?_
  exact k1
theorem rX8_colours_81 {l : Launch} {G : jG} {X : jX} {Q : State → Prop} {n hg nc : Nat} {ret : Option FieldType} {mu : jM} {y0 : Int32} {y1 : Int32} {y2 : Int32} {y3 : Int32} {Qc : jM → Prop} {h' : Nat} (h : jOk l G X cX8_colours 1 ret RX8 hg nc) (hM : jCv l G yX8_add cX8_add 5 h' (.ref 58 :: [.int y3, .int y2, .int y1, .int y0]) mu Qc) (hh : h' < hg ∧ 5 ≤ 21) (hn : n ≤ nc)
    (kk : ∀ mu', Qc mu' → J l G X Q 1 84 [.ref 58] [] mu' n) :
    J l G X Q 1 81 [.ref 58] [.int y0, .int y1, .int y2, .int y3, .ref 58] mu n :=
  J_callV (As := [.int y3, .int y2, .int y1, .int y0]) (rest := []) h dX8_colours_81 hM (jgV w1158 w1160 w36 w84 w1161) rfl (ci := 8) rfl rfl nmX8_add rfl hh (Nat.le_of_ble_eq_true rfl) rfl kk hn
theorem rX8_colours_84 {l : Launch} {G : jG} {X : jX} {Q : State → Prop} {n hg nc : Nat} {ret : Option FieldType} {mu : jM} (h : jOk l G X cX8_colours 1 ret RX8 hg nc)
    (k1 : J l G X Q 1 89 [.ref 58] [.int 2, .int 3, .int 2, .int 3, .ref 58] mu n) :
    J l G X Q 1 84 [.ref 58] [] mu n := by
  refine J_aload_n h dX8_colours_84 rfl rfl ?_
  refine J_iconst h dX8_colours_85 ci_3 ?_
  refine J_iconst h dX8_colours_86 ci_2 ?_
  refine J_iconst h dX8_colours_87 ci_3 ?_
  refine J_iconst h dX8_colours_88 ci_2 ?_
  exact k1
theorem rX8_colours_89 {l : Launch} {G : jG} {X : jX} {Q : State → Prop} {n hg nc : Nat} {ret : Option FieldType} {mu : jM} {y0 : Int32} {y1 : Int32} {y2 : Int32} {y3 : Int32} {Qc : jM → Prop} {h' : Nat} (h : jOk l G X cX8_colours 1 ret RX8 hg nc) (hM : jCv l G yX8_add cX8_add 5 h' (.ref 58 :: [.int y3, .int y2, .int y1, .int y0]) mu Qc) (hh : h' < hg ∧ 5 ≤ 21) (hn : n ≤ nc)
    (kk : ∀ mu', Qc mu' → J l G X Q 1 92 [.ref 58] [] mu' n) :
    J l G X Q 1 89 [.ref 58] [.int y0, .int y1, .int y2, .int y3, .ref 58] mu n :=
  J_callV (As := [.int y3, .int y2, .int y1, .int y0]) (rest := []) h dX8_colours_89 hM (jgV w1158 w1160 w36 w84 w1161) rfl (ci := 8) rfl rfl nmX8_add rfl hh (Nat.le_of_ble_eq_true rfl) rfl kk hn
theorem rX8_colours_92 {l : Launch} {G : jG} {X : jX} {Q : State → Prop} {n hg nc : Nat} {ret : Option FieldType} {mu : jM} (h : jOk l G X cX8_colours 1 ret RX8 hg nc)
    (k1 : J l G X Q 1 98 [.ref 58] [.int 0, .int 2, .int 2, .int 12, .ref 58] mu n) :
    J l G X Q 1 92 [.ref 58] [] mu n := by
  refine J_aload_n h dX8_colours_92 rfl rfl ?_
  refine J_bipush h dX8_colours_93 cb_12 ?_
  refine J_iconst h dX8_colours_95 ci_2 ?_
  refine J_iconst h dX8_colours_96 ci_2 ?_
  refine J_iconst h dX8_colours_97 ci_0 ?_
  exact k1
theorem rX8_colours_98 {l : Launch} {G : jG} {X : jX} {Q : State → Prop} {n hg nc : Nat} {ret : Option FieldType} {mu : jM} {y0 : Int32} {y1 : Int32} {y2 : Int32} {y3 : Int32} {Qc : jM → Prop} {h' : Nat} (h : jOk l G X cX8_colours 1 ret RX8 hg nc) (hM : jCv l G yX8_add cX8_add 5 h' (.ref 58 :: [.int y3, .int y2, .int y1, .int y0]) mu Qc) (hh : h' < hg ∧ 5 ≤ 21) (hn : n ≤ nc)
    (kk : ∀ mu', Qc mu' → J l G X Q 1 101 [.ref 58] [] mu' n) :
    J l G X Q 1 98 [.ref 58] [.int y0, .int y1, .int y2, .int y3, .ref 58] mu n :=
  J_callV (As := [.int y3, .int y2, .int y1, .int y0]) (rest := []) h dX8_colours_98 hM (jgV w1158 w1160 w36 w84 w1161) rfl (ci := 8) rfl rfl nmX8_add rfl hh (Nat.le_of_ble_eq_true rfl) rfl kk hn
theorem rX8_colours_101 {l : Launch} {G : jG} {X : jX} {Q : State → Prop} {n hg nc : Nat} {ret : Option FieldType} {mu : jM} (h : jOk l G X cX8_colours 1 ret RX8 hg nc)
    (k1 : J l G X Q 1 109 [.ref 58] [.int 2, .int 7, .int 7, .int 10, .ref 58] mu n) :
    J l G X Q 1 101 [.ref 58] [] mu n := by
  refine J_aload_n h dX8_colours_101 rfl rfl ?_
  refine J_bipush h dX8_colours_102 cb_10 ?_
  refine J_bipush h dX8_colours_104 cb_7 ?_
  refine J_bipush h dX8_colours_106 cb_7 ?_
  refine J_iconst h dX8_colours_108 ci_2 ?_
  exact k1
theorem rX8_colours_109 {l : Launch} {G : jG} {X : jX} {Q : State → Prop} {n hg nc : Nat} {ret : Option FieldType} {mu : jM} {y0 : Int32} {y1 : Int32} {y2 : Int32} {y3 : Int32} {Qc : jM → Prop} {h' : Nat} (h : jOk l G X cX8_colours 1 ret RX8 hg nc) (hM : jCv l G yX8_add cX8_add 5 h' (.ref 58 :: [.int y3, .int y2, .int y1, .int y0]) mu Qc) (hh : h' < hg ∧ 5 ≤ 21) (hn : n ≤ nc)
    (kk : ∀ mu', Qc mu' → J l G X Q 1 112 [.ref 58] [] mu' n) :
    J l G X Q 1 109 [.ref 58] [.int y0, .int y1, .int y2, .int y3, .ref 58] mu n :=
  J_callV (As := [.int y3, .int y2, .int y1, .int y0]) (rest := []) h dX8_colours_109 hM (jgV w1158 w1160 w36 w84 w1161) rfl (ci := 8) rfl rfl nmX8_add rfl hh (Nat.le_of_ble_eq_true rfl) rfl kk hn
theorem rX8_colours_112 {l : Launch} {G : jG} {X : jX} {Q : State → Prop} {n hg nc : Nat} {ret : Option FieldType} {mu : jM} (h : jOk l G X cX8_colours 1 ret RX8 hg nc)
    (k1 : J l G X Q 1 118 [.ref 58] [.int 0, .int 0, .int 2, .int 19, .ref 58] mu n) :
    J l G X Q 1 112 [.ref 58] [] mu n := by
  refine J_aload_n h dX8_colours_112 rfl rfl ?_
  refine J_bipush h dX8_colours_113 cb_19 ?_
  refine J_iconst h dX8_colours_115 ci_2 ?_
  refine J_iconst h dX8_colours_116 ci_0 ?_
  refine J_iconst h dX8_colours_117 ci_0 ?_
  exact k1
theorem rX8_colours_118 {l : Launch} {G : jG} {X : jX} {Q : State → Prop} {n hg nc : Nat} {ret : Option FieldType} {mu : jM} {y0 : Int32} {y1 : Int32} {y2 : Int32} {y3 : Int32} {Qc : jM → Prop} {h' : Nat} (h : jOk l G X cX8_colours 1 ret RX8 hg nc) (hM : jCv l G yX8_add cX8_add 5 h' (.ref 58 :: [.int y3, .int y2, .int y1, .int y0]) mu Qc) (hh : h' < hg ∧ 5 ≤ 21) (hn : n ≤ nc)
    (kk : ∀ mu', Qc mu' → J l G X Q 1 121 [.ref 58] [] mu' n) :
    J l G X Q 1 118 [.ref 58] [.int y0, .int y1, .int y2, .int y3, .ref 58] mu n :=
  J_callV (As := [.int y3, .int y2, .int y1, .int y0]) (rest := []) h dX8_colours_118 hM (jgV w1158 w1160 w36 w84 w1161) rfl (ci := 8) rfl rfl nmX8_add rfl hh (Nat.le_of_ble_eq_true rfl) rfl kk hn
theorem rX8_colours_121 {l : Launch} {G : jG} {X : jX} {Q : State → Prop} {n hg nc : Nat} {ret : Option FieldType} {mu : jM} (h : jOk l G X cX8_colours 1 ret RX8 hg nc)
    (k1 : J l G X Q 1 127 [.ref 58] [.int 0, .int 1, .int 6, .int 0, .ref 58] mu n) :
    J l G X Q 1 121 [.ref 58] [] mu n := by
  refine J_aload_n h dX8_colours_121 rfl rfl ?_
  refine J_iconst h dX8_colours_122 ci_0 ?_
  refine J_bipush h dX8_colours_123 cb_6 ?_
  refine J_iconst h dX8_colours_125 ci_1 ?_
  refine J_iconst h dX8_colours_126 ci_0 ?_
  exact k1
theorem rX8_colours_127 {l : Launch} {G : jG} {X : jX} {Q : State → Prop} {n hg nc : Nat} {ret : Option FieldType} {mu : jM} {y0 : Int32} {y1 : Int32} {y2 : Int32} {y3 : Int32} {Qc : jM → Prop} {h' : Nat} (h : jOk l G X cX8_colours 1 ret RX8 hg nc) (hM : jCv l G yX8_add cX8_add 5 h' (.ref 58 :: [.int y3, .int y2, .int y1, .int y0]) mu Qc) (hh : h' < hg ∧ 5 ≤ 21) (hn : n ≤ nc)
    (kk : ∀ mu', Qc mu' → J l G X Q 1 130 [.ref 58] [] mu' n) :
    J l G X Q 1 127 [.ref 58] [.int y0, .int y1, .int y2, .int y3, .ref 58] mu n :=
  J_callV (As := [.int y3, .int y2, .int y1, .int y0]) (rest := []) h dX8_colours_127 hM (jgV w1158 w1160 w36 w84 w1161) rfl (ci := 8) rfl rfl nmX8_add rfl hh (Nat.le_of_ble_eq_true rfl) rfl kk hn
theorem rX8_colours_130 {l : Launch} {G : jG} {X : jX} {Q : State → Prop} {n hg nc : Nat} {ret : Option FieldType} {mu : jM} (h : jOk l G X cX8_colours 1 ret RX8 hg nc)
    (k1 : J l G X Q 1 137 [.ref 58] [.int 2, .int 6, .int 2, .int 7, .ref 58] mu n) :
    J l G X Q 1 130 [.ref 58] [] mu n := by
  refine J_aload_n h dX8_colours_130 rfl rfl ?_
  refine J_bipush h dX8_colours_131 cb_7 ?_
  refine J_iconst h dX8_colours_133 ci_2 ?_
  refine J_bipush h dX8_colours_134 cb_6 ?_
  refine J_iconst h dX8_colours_136 ci_2 ?_
  exact k1
theorem rX8_colours_137 {l : Launch} {G : jG} {X : jX} {Q : State → Prop} {n hg nc : Nat} {ret : Option FieldType} {mu : jM} {y0 : Int32} {y1 : Int32} {y2 : Int32} {y3 : Int32} {Qc : jM → Prop} {h' : Nat} (h : jOk l G X cX8_colours 1 ret RX8 hg nc) (hM : jCv l G yX8_add cX8_add 5 h' (.ref 58 :: [.int y3, .int y2, .int y1, .int y0]) mu Qc) (hh : h' < hg ∧ 5 ≤ 21) (hn : n ≤ nc)
    (kk : ∀ mu', Qc mu' → J l G X Q 1 140 [.ref 58] [] mu' n) :
    J l G X Q 1 137 [.ref 58] [.int y0, .int y1, .int y2, .int y3, .ref 58] mu n :=
  J_callV (As := [.int y3, .int y2, .int y1, .int y0]) (rest := []) h dX8_colours_137 hM (jgV w1158 w1160 w36 w84 w1161) rfl (ci := 8) rfl rfl nmX8_add rfl hh (Nat.le_of_ble_eq_true rfl) rfl kk hn
theorem rX8_colours_140 {l : Launch} {G : jG} {X : jX} {Q : State → Prop} {n hg nc : Nat} {ret : Option FieldType} {mu : jM} (h : jOk l G X cX8_colours 1 ret RX8 hg nc)
    (k1 : J l G X Q 1 147 [.ref 58] [.int 3, .int 1, .int 6, .int 8, .ref 58] mu n) :
    J l G X Q 1 140 [.ref 58] [] mu n := by
  refine J_aload_n h dX8_colours_140 rfl rfl ?_
  refine J_bipush h dX8_colours_141 cb_8 ?_
  refine J_bipush h dX8_colours_143 cb_6 ?_
  refine J_iconst h dX8_colours_145 ci_1 ?_
  refine J_iconst h dX8_colours_146 ci_3 ?_
  exact k1
theorem rX8_colours_147 {l : Launch} {G : jG} {X : jX} {Q : State → Prop} {n hg nc : Nat} {ret : Option FieldType} {mu : jM} {y0 : Int32} {y1 : Int32} {y2 : Int32} {y3 : Int32} {Qc : jM → Prop} {h' : Nat} (h : jOk l G X cX8_colours 1 ret RX8 hg nc) (hM : jCv l G yX8_add cX8_add 5 h' (.ref 58 :: [.int y3, .int y2, .int y1, .int y0]) mu Qc) (hh : h' < hg ∧ 5 ≤ 21) (hn : n ≤ nc)
    (kk : ∀ mu', Qc mu' → J l G X Q 1 150 [.ref 58] [] mu' n) :
    J l G X Q 1 147 [.ref 58] [.int y0, .int y1, .int y2, .int y3, .ref 58] mu n :=
  J_callV (As := [.int y3, .int y2, .int y1, .int y0]) (rest := []) h dX8_colours_147 hM (jgV w1158 w1160 w36 w84 w1161) rfl (ci := 8) rfl rfl nmX8_add rfl hh (Nat.le_of_ble_eq_true rfl) rfl kk hn
theorem rX8_colours_150 {l : Launch} {G : jG} {X : jX} {Q : State → Prop} {n hg nc : Nat} {ret : Option FieldType} {mu : jM} (h : jOk l G X cX8_colours 1 ret RX8 hg nc)
    (k1 : J l G X Q 1 157 [.ref 58] [.int 6, .int 2, .int 2, .int 9, .ref 58] mu n) :
    J l G X Q 1 150 [.ref 58] [] mu n := by
  refine J_aload_n h dX8_colours_150 rfl rfl ?_
  refine J_bipush h dX8_colours_151 cb_9 ?_
  refine J_iconst h dX8_colours_153 ci_2 ?_
  refine J_iconst h dX8_colours_154 ci_2 ?_
  refine J_bipush h dX8_colours_155 cb_6 ?_
  exact k1
theorem rX8_colours_157 {l : Launch} {G : jG} {X : jX} {Q : State → Prop} {n hg nc : Nat} {ret : Option FieldType} {mu : jM} {y0 : Int32} {y1 : Int32} {y2 : Int32} {y3 : Int32} {Qc : jM → Prop} {h' : Nat} (h : jOk l G X cX8_colours 1 ret RX8 hg nc) (hM : jCv l G yX8_add cX8_add 5 h' (.ref 58 :: [.int y3, .int y2, .int y1, .int y0]) mu Qc) (hh : h' < hg ∧ 5 ≤ 21) (hn : n ≤ nc)
    (kk : ∀ mu', Qc mu' → J l G X Q 1 160 [.ref 58] [] mu' n) :
    J l G X Q 1 157 [.ref 58] [.int y0, .int y1, .int y2, .int y3, .ref 58] mu n :=
  J_callV (As := [.int y3, .int y2, .int y1, .int y0]) (rest := []) h dX8_colours_157 hM (jgV w1158 w1160 w36 w84 w1161) rfl (ci := 8) rfl rfl nmX8_add rfl hh (Nat.le_of_ble_eq_true rfl) rfl kk hn
theorem rX8_colours_160 {l : Launch} {G : jG} {X : jX} {Q : State → Prop} {n hg nc : Nat} {ret : Option FieldType} {mu : jM} (h : jOk l G X cX8_colours 1 ret RX8 hg nc)
    (k1 : J l G X Q 1 167 [.ref 58] [.int 0, .int 0, .int 6, .int 20, .ref 58] mu n) :
    J l G X Q 1 160 [.ref 58] [] mu n := by
  refine J_aload_n h dX8_colours_160 rfl rfl ?_
  refine J_bipush h dX8_colours_161 cb_20 ?_
  refine J_bipush h dX8_colours_163 cb_6 ?_
  refine J_iconst h dX8_colours_165 ci_0 ?_
  refine J_iconst h dX8_colours_166 ci_0 ?_
  exact k1
theorem rX8_colours_167 {l : Launch} {G : jG} {X : jX} {Q : State → Prop} {n hg nc : Nat} {ret : Option FieldType} {mu : jM} {y0 : Int32} {y1 : Int32} {y2 : Int32} {y3 : Int32} {Qc : jM → Prop} {h' : Nat} (h : jOk l G X cX8_colours 1 ret RX8 hg nc) (hM : jCv l G yX8_add cX8_add 5 h' (.ref 58 :: [.int y3, .int y2, .int y1, .int y0]) mu Qc) (hh : h' < hg ∧ 5 ≤ 21) (hn : n ≤ nc)
    (kk : ∀ mu', Qc mu' → J l G X Q 1 170 [.ref 58] [] mu' n) :
    J l G X Q 1 167 [.ref 58] [.int y0, .int y1, .int y2, .int y3, .ref 58] mu n :=
  J_callV (As := [.int y3, .int y2, .int y1, .int y0]) (rest := []) h dX8_colours_167 hM (jgV w1158 w1160 w36 w84 w1161) rfl (ci := 8) rfl rfl nmX8_add rfl hh (Nat.le_of_ble_eq_true rfl) rfl kk hn
theorem rX8_colours_170 {l : Launch} {G : jG} {X : jX} {Q : State → Prop} {n hg nc : Nat} {ret : Option FieldType} {mu : jM} (h : jOk l G X cX8_colours 1 ret RX8 hg nc)
    (k1 : J l G X Q 1 175 [.ref 58] [.int 0, .int 1, .int 4, .int 0, .ref 58] mu n) :
    J l G X Q 1 170 [.ref 58] [] mu n := by
  refine J_aload_n h dX8_colours_170 rfl rfl ?_
  refine J_iconst h dX8_colours_171 ci_0 ?_
  refine J_iconst h dX8_colours_172 ci_4 ?_
  refine J_iconst h dX8_colours_173 ci_1 ?_
  refine J_iconst h dX8_colours_174 ci_0 ?_
  exact k1
theorem rX8_colours_175 {l : Launch} {G : jG} {X : jX} {Q : State → Prop} {n hg nc : Nat} {ret : Option FieldType} {mu : jM} {y0 : Int32} {y1 : Int32} {y2 : Int32} {y3 : Int32} {Qc : jM → Prop} {h' : Nat} (h : jOk l G X cX8_colours 1 ret RX8 hg nc) (hM : jCv l G yX8_add cX8_add 5 h' (.ref 58 :: [.int y3, .int y2, .int y1, .int y0]) mu Qc) (hh : h' < hg ∧ 5 ≤ 21) (hn : n ≤ nc)
    (kk : ∀ mu', Qc mu' → J l G X Q 1 178 [.ref 58] [] mu' n) :
    J l G X Q 1 175 [.ref 58] [.int y0, .int y1, .int y2, .int y3, .ref 58] mu n :=
  J_callV (As := [.int y3, .int y2, .int y1, .int y0]) (rest := []) h dX8_colours_175 hM (jgV w1158 w1160 w36 w84 w1161) rfl (ci := 8) rfl rfl nmX8_add rfl hh (Nat.le_of_ble_eq_true rfl) rfl kk hn
theorem rX8_colours_178 {l : Launch} {G : jG} {X : jX} {Q : State → Prop} {n hg nc : Nat} {ret : Option FieldType} {mu : jM} (h : jOk l G X cX8_colours 1 ret RX8 hg nc)
    (k1 : J l G X Q 1 185 [.ref 58] [.int 4, .int 6, .int 6, .int 2, .ref 58] mu n) :
    J l G X Q 1 178 [.ref 58] [] mu n := by
  refine J_aload_n h dX8_colours_178 rfl rfl ?_
  refine J_iconst h dX8_colours_179 ci_2 ?_
  refine J_bipush h dX8_colours_180 cb_6 ?_
  refine J_bipush h dX8_colours_182 cb_6 ?_
  refine J_iconst h dX8_colours_184 ci_4 ?_
  exact k1
theorem rX8_colours_185 {l : Launch} {G : jG} {X : jX} {Q : State → Prop} {n hg nc : Nat} {ret : Option FieldType} {mu : jM} {y0 : Int32} {y1 : Int32} {y2 : Int32} {y3 : Int32} {Qc : jM → Prop} {h' : Nat} (h : jOk l G X cX8_colours 1 ret RX8 hg nc) (hM : jCv l G yX8_add cX8_add 5 h' (.ref 58 :: [.int y3, .int y2, .int y1, .int y0]) mu Qc) (hh : h' < hg ∧ 5 ≤ 21) (hn : n ≤ nc)
    (kk : ∀ mu', Qc mu' → J l G X Q 1 188 [.ref 58] [] mu' n) :
    J l G X Q 1 185 [.ref 58] [.int y0, .int y1, .int y2, .int y3, .ref 58] mu n :=
  J_callV (As := [.int y3, .int y2, .int y1, .int y0]) (rest := []) h dX8_colours_185 hM (jgV w1158 w1160 w36 w84 w1161) rfl (ci := 8) rfl rfl nmX8_add rfl hh (Nat.le_of_ble_eq_true rfl) rfl kk hn
theorem rX8_colours_188 {l : Launch} {G : jG} {X : jX} {Q : State → Prop} {n hg nc : Nat} {ret : Option FieldType} {mu : jM} (h : jOk l G X cX8_colours 1 ret RX8 hg nc)
    (k1 : J l G X Q 1 195 [.ref 58] [.int 6, .int 5, .int 4, .int 7, .ref 58] mu n) :
    J l G X Q 1 188 [.ref 58] [] mu n := by
  refine J_aload_n h dX8_colours_188 rfl rfl ?_
  refine J_bipush h dX8_colours_189 cb_7 ?_
  refine J_iconst h dX8_colours_191 ci_4 ?_
  refine J_iconst h dX8_colours_192 ci_5 ?_
  refine J_bipush h dX8_colours_193 cb_6 ?_
  exact k1
theorem rX8_colours_195 {l : Launch} {G : jG} {X : jX} {Q : State → Prop} {n hg nc : Nat} {ret : Option FieldType} {mu : jM} {y0 : Int32} {y1 : Int32} {y2 : Int32} {y3 : Int32} {Qc : jM → Prop} {h' : Nat} (h : jOk l G X cX8_colours 1 ret RX8 hg nc) (hM : jCv l G yX8_add cX8_add 5 h' (.ref 58 :: [.int y3, .int y2, .int y1, .int y0]) mu Qc) (hh : h' < hg ∧ 5 ≤ 21) (hn : n ≤ nc)
    (kk : ∀ mu', Qc mu' → J l G X Q 1 198 [.ref 58] [] mu' n) :
    J l G X Q 1 195 [.ref 58] [.int y0, .int y1, .int y2, .int y3, .ref 58] mu n :=
  J_callV (As := [.int y3, .int y2, .int y1, .int y0]) (rest := []) h dX8_colours_195 hM (jgV w1158 w1160 w36 w84 w1161) rfl (ci := 8) rfl rfl nmX8_add rfl hh (Nat.le_of_ble_eq_true rfl) rfl kk hn
theorem rX8_colours_198 {l : Launch} {G : jG} {X : jX} {Q : State → Prop} {n hg nc : Nat} {ret : Option FieldType} {mu : jM} (h : jOk l G X cX8_colours 1 ret RX8 hg nc)
    (k1 : J l G X Q 1 204 [.ref 58] [.int 4, .int 2, .int 2, .int 9, .ref 58] mu n) :
    J l G X Q 1 198 [.ref 58] [] mu n := by
  refine J_aload_n h dX8_colours_198 rfl rfl ?_
  refine J_bipush h dX8_colours_199 cb_9 ?_
  refine J_iconst h dX8_colours_201 ci_2 ?_
  refine J_iconst h dX8_colours_202 ci_2 ?_
  refine J_iconst h dX8_colours_203 ci_4 ?_
  exact k1
theorem rX8_colours_204 {l : Launch} {G : jG} {X : jX} {Q : State → Prop} {n hg nc : Nat} {ret : Option FieldType} {mu : jM} {y0 : Int32} {y1 : Int32} {y2 : Int32} {y3 : Int32} {Qc : jM → Prop} {h' : Nat} (h : jOk l G X cX8_colours 1 ret RX8 hg nc) (hM : jCv l G yX8_add cX8_add 5 h' (.ref 58 :: [.int y3, .int y2, .int y1, .int y0]) mu Qc) (hh : h' < hg ∧ 5 ≤ 21) (hn : n ≤ nc)
    (kk : ∀ mu', Qc mu' → J l G X Q 1 207 [.ref 58] [] mu' n) :
    J l G X Q 1 204 [.ref 58] [.int y0, .int y1, .int y2, .int y3, .ref 58] mu n :=
  J_callV (As := [.int y3, .int y2, .int y1, .int y0]) (rest := []) h dX8_colours_204 hM (jgV w1158 w1160 w36 w84 w1161) rfl (ci := 8) rfl rfl nmX8_add rfl hh (Nat.le_of_ble_eq_true rfl) rfl kk hn
theorem rX8_colours_207 {l : Launch} {G : jG} {X : jX} {Q : State → Prop} {n hg nc : Nat} {ret : Option FieldType} {mu : jM} (h : jOk l G X cX8_colours 1 ret RX8 hg nc)
    (k1 : J l G X Q 1 213 [.ref 58] [.int 0, .int 3, .int 2, .int 14, .ref 58] mu n) :
    J l G X Q 1 207 [.ref 58] [] mu n := by
  refine J_aload_n h dX8_colours_207 rfl rfl ?_
  refine J_bipush h dX8_colours_208 cb_14 ?_
  refine J_iconst h dX8_colours_210 ci_2 ?_
  refine J_iconst h dX8_colours_211 ci_3 ?_
  refine J_iconst h dX8_colours_212 ci_0 ?_
  exact k1
theorem rX8_colours_213 {l : Launch} {G : jG} {X : jX} {Q : State → Prop} {n hg nc : Nat} {ret : Option FieldType} {mu : jM} {y0 : Int32} {y1 : Int32} {y2 : Int32} {y3 : Int32} {Qc : jM → Prop} {h' : Nat} (h : jOk l G X cX8_colours 1 ret RX8 hg nc) (hM : jCv l G yX8_add cX8_add 5 h' (.ref 58 :: [.int y3, .int y2, .int y1, .int y0]) mu Qc) (hh : h' < hg ∧ 5 ≤ 21) (hn : n ≤ nc)
    (kk : ∀ mu', Qc mu' → J l G X Q 1 216 [.ref 58] [] mu' n) :
    J l G X Q 1 213 [.ref 58] [.int y0, .int y1, .int y2, .int y3, .ref 58] mu n :=
  J_callV (As := [.int y3, .int y2, .int y1, .int y0]) (rest := []) h dX8_colours_213 hM (jgV w1158 w1160 w36 w84 w1161) rfl (ci := 8) rfl rfl nmX8_add rfl hh (Nat.le_of_ble_eq_true rfl) rfl kk hn
theorem rX8_colours_216 {l : Launch} {G : jG} {X : jX} {Q : State → Prop} {n hg nc : Nat} {ret : Option FieldType} {mu : jM} (h : jOk l G X cX8_colours 1 ret RX8 hg nc)
    (k1 : J l G X Q 1 221 [.ref 58] [.int 0, .int 1, .int 4, .int 0, .ref 58] mu n) :
    J l G X Q 1 216 [.ref 58] [] mu n := by
  refine J_aload_n h dX8_colours_216 rfl rfl ?_
  refine J_iconst h dX8_colours_217 ci_0 ?_
  refine J_iconst h dX8_colours_218 ci_4 ?_
  refine J_iconst h dX8_colours_219 ci_1 ?_
  refine J_iconst h dX8_colours_220 ci_0 ?_
  exact k1
theorem rX8_colours_221 {l : Launch} {G : jG} {X : jX} {Q : State → Prop} {n hg nc : Nat} {ret : Option FieldType} {mu : jM} {y0 : Int32} {y1 : Int32} {y2 : Int32} {y3 : Int32} {Qc : jM → Prop} {h' : Nat} (h : jOk l G X cX8_colours 1 ret RX8 hg nc) (hM : jCv l G yX8_add cX8_add 5 h' (.ref 58 :: [.int y3, .int y2, .int y1, .int y0]) mu Qc) (hh : h' < hg ∧ 5 ≤ 21) (hn : n ≤ nc)
    (kk : ∀ mu', Qc mu' → J l G X Q 1 224 [.ref 58] [] mu' n) :
    J l G X Q 1 221 [.ref 58] [.int y0, .int y1, .int y2, .int y3, .ref 58] mu n :=
  J_callV (As := [.int y3, .int y2, .int y1, .int y0]) (rest := []) h dX8_colours_221 hM (jgV w1158 w1160 w36 w84 w1161) rfl (ci := 8) rfl rfl nmX8_add rfl hh (Nat.le_of_ble_eq_true rfl) rfl kk hn
theorem rX8_colours_224 {l : Launch} {G : jG} {X : jX} {Q : State → Prop} {n hg nc : Nat} {ret : Option FieldType} {mu : jM} (h : jOk l G X cX8_colours 1 ret RX8 hg nc)
    (k1 : J l G X Q 1 232 [.ref 58] [.int 4, .int 7, .int 7, .int 10, .ref 58] mu n) :
    J l G X Q 1 224 [.ref 58] [] mu n := by
  refine J_aload_n h dX8_colours_224 rfl rfl ?_
  refine J_bipush h dX8_colours_225 cb_10 ?_
  refine J_bipush h dX8_colours_227 cb_7 ?_
  refine J_bipush h dX8_colours_229 cb_7 ?_
  refine J_iconst h dX8_colours_231 ci_4 ?_
  exact k1
theorem rX8_colours_232 {l : Launch} {G : jG} {X : jX} {Q : State → Prop} {n hg nc : Nat} {ret : Option FieldType} {mu : jM} {y0 : Int32} {y1 : Int32} {y2 : Int32} {y3 : Int32} {Qc : jM → Prop} {h' : Nat} (h : jOk l G X cX8_colours 1 ret RX8 hg nc) (hM : jCv l G yX8_add cX8_add 5 h' (.ref 58 :: [.int y3, .int y2, .int y1, .int y0]) mu Qc) (hh : h' < hg ∧ 5 ≤ 21) (hn : n ≤ nc)
    (kk : ∀ mu', Qc mu' → J l G X Q 1 235 [.ref 58] [] mu' n) :
    J l G X Q 1 232 [.ref 58] [.int y0, .int y1, .int y2, .int y3, .ref 58] mu n :=
  J_callV (As := [.int y3, .int y2, .int y1, .int y0]) (rest := []) h dX8_colours_232 hM (jgV w1158 w1160 w36 w84 w1161) rfl (ci := 8) rfl rfl nmX8_add rfl hh (Nat.le_of_ble_eq_true rfl) rfl kk hn
theorem rX8_colours_235 {l : Launch} {G : jG} {X : jX} {Q : State → Prop} {n hg nc : Nat} {ret : Option FieldType} {mu : jM} (h : jOk l G X cX8_colours 1 ret RX8 hg nc)
    (k1 : J l G X Q 1 242 [.ref 58] [.int 0, .int 7, .int 1, .int 13, .ref 58] mu n) :
    J l G X Q 1 235 [.ref 58] [] mu n := by
  refine J_aload_n h dX8_colours_235 rfl rfl ?_
  refine J_bipush h dX8_colours_236 cb_13 ?_
  refine J_iconst h dX8_colours_238 ci_1 ?_
  refine J_bipush h dX8_colours_239 cb_7 ?_
  refine J_iconst h dX8_colours_241 ci_0 ?_
  exact k1
theorem rX8_colours_242 {l : Launch} {G : jG} {X : jX} {Q : State → Prop} {n hg nc : Nat} {ret : Option FieldType} {mu : jM} {y0 : Int32} {y1 : Int32} {y2 : Int32} {y3 : Int32} {Qc : jM → Prop} {h' : Nat} (h : jOk l G X cX8_colours 1 ret RX8 hg nc) (hM : jCv l G yX8_add cX8_add 5 h' (.ref 58 :: [.int y3, .int y2, .int y1, .int y0]) mu Qc) (hh : h' < hg ∧ 5 ≤ 21) (hn : n ≤ nc)
    (kk : ∀ mu', Qc mu' → J l G X Q 1 245 [.ref 58] [] mu' n) :
    J l G X Q 1 242 [.ref 58] [.int y0, .int y1, .int y2, .int y3, .ref 58] mu n :=
  J_callV (As := [.int y3, .int y2, .int y1, .int y0]) (rest := []) h dX8_colours_242 hM (jgV w1158 w1160 w36 w84 w1161) rfl (ci := 8) rfl rfl nmX8_add rfl hh (Nat.le_of_ble_eq_true rfl) rfl kk hn
theorem rX8_colours_245 {l : Launch} {G : jG} {X : jX} {Q : State → Prop} {n hg nc : Nat} {ret : Option FieldType} {mu : jM} (h : jOk l G X cX8_colours 1 ret RX8 hg nc)
    (k1 : J l G X Q 1 251 [.ref 58] [.int 3, .int 1, .int 4, .int 8, .ref 58] mu n) :
    J l G X Q 1 245 [.ref 58] [] mu n := by
  refine J_aload_n h dX8_colours_245 rfl rfl ?_
  refine J_bipush h dX8_colours_246 cb_8 ?_
  refine J_iconst h dX8_colours_248 ci_4 ?_
  refine J_iconst h dX8_colours_249 ci_1 ?_
  refine J_iconst h dX8_colours_250 ci_3 ?_
  exact k1
theorem rX8_colours_251 {l : Launch} {G : jG} {X : jX} {Q : State → Prop} {n hg nc : Nat} {ret : Option FieldType} {mu : jM} {y0 : Int32} {y1 : Int32} {y2 : Int32} {y3 : Int32} {Qc : jM → Prop} {h' : Nat} (h : jOk l G X cX8_colours 1 ret RX8 hg nc) (hM : jCv l G yX8_add cX8_add 5 h' (.ref 58 :: [.int y3, .int y2, .int y1, .int y0]) mu Qc) (hh : h' < hg ∧ 5 ≤ 21) (hn : n ≤ nc)
    (kk : ∀ mu', Qc mu' → J l G X Q 1 254 [.ref 58] [] mu' n) :
    J l G X Q 1 251 [.ref 58] [.int y0, .int y1, .int y2, .int y3, .ref 58] mu n :=
  J_callV (As := [.int y3, .int y2, .int y1, .int y0]) (rest := []) h dX8_colours_251 hM (jgV w1158 w1160 w36 w84 w1161) rfl (ci := 8) rfl rfl nmX8_add rfl hh (Nat.le_of_ble_eq_true rfl) rfl kk hn
theorem rX8_colours_254 {l : Launch} {G : jG} {X : jX} {Q : State → Prop} {n hg nc : Nat} {ret : Option FieldType} {mu : jM} (h : jOk l G X cX8_colours 1 ret RX8 hg nc)
    (k1 : J l G X Q 1 259 [.ref 58] [.int 1, .int 3, .int 5, .int 3, .ref 58] mu n) :
    J l G X Q 1 254 [.ref 58] [] mu n := by
  refine J_aload_n h dX8_colours_254 rfl rfl ?_
  refine J_iconst h dX8_colours_255 ci_3 ?_
  refine J_iconst h dX8_colours_256 ci_5 ?_
  refine J_iconst h dX8_colours_257 ci_3 ?_
  refine J_iconst h dX8_colours_258 ci_1 ?_
  exact k1
theorem rX8_colours_259 {l : Launch} {G : jG} {X : jX} {Q : State → Prop} {n hg nc : Nat} {ret : Option FieldType} {mu : jM} {y0 : Int32} {y1 : Int32} {y2 : Int32} {y3 : Int32} {Qc : jM → Prop} {h' : Nat} (h : jOk l G X cX8_colours 1 ret RX8 hg nc) (hM : jCv l G yX8_add cX8_add 5 h' (.ref 58 :: [.int y3, .int y2, .int y1, .int y0]) mu Qc) (hh : h' < hg ∧ 5 ≤ 21) (hn : n ≤ nc)
    (kk : ∀ mu', Qc mu' → J l G X Q 1 262 [.ref 58] [] mu' n) :
    J l G X Q 1 259 [.ref 58] [.int y0, .int y1, .int y2, .int y3, .ref 58] mu n :=
  J_callV (As := [.int y3, .int y2, .int y1, .int y0]) (rest := []) h dX8_colours_259 hM (jgV w1158 w1160 w36 w84 w1161) rfl (ci := 8) rfl rfl nmX8_add rfl hh (Nat.le_of_ble_eq_true rfl) rfl kk hn
theorem rX8_colours_262 {l : Launch} {G : jG} {X : jX} {Q : State → Prop} {n hg nc : Nat} {ret : Option FieldType} {mu : jM} (h : jOk l G X cX8_colours 1 ret RX8 hg nc)
    (k1 : J l G X Q 1 268 [.ref 58] [.int 0, .int 1, .int 4, .int 14, .ref 58] mu n) :
    J l G X Q 1 262 [.ref 58] [] mu n := by
  refine J_aload_n h dX8_colours_262 rfl rfl ?_
  refine J_bipush h dX8_colours_263 cb_14 ?_
  refine J_iconst h dX8_colours_265 ci_4 ?_
  refine J_iconst h dX8_colours_266 ci_1 ?_
  refine J_iconst h dX8_colours_267 ci_0 ?_
  exact k1
theorem rX8_colours_268 {l : Launch} {G : jG} {X : jX} {Q : State → Prop} {n hg nc : Nat} {ret : Option FieldType} {mu : jM} {y0 : Int32} {y1 : Int32} {y2 : Int32} {y3 : Int32} {Qc : jM → Prop} {h' : Nat} (h : jOk l G X cX8_colours 1 ret RX8 hg nc) (hM : jCv l G yX8_add cX8_add 5 h' (.ref 58 :: [.int y3, .int y2, .int y1, .int y0]) mu Qc) (hh : h' < hg ∧ 5 ≤ 21) (hn : n ≤ nc)
    (kk : ∀ mu', Qc mu' → J l G X Q 1 271 [.ref 58] [] mu' n) :
    J l G X Q 1 268 [.ref 58] [.int y0, .int y1, .int y2, .int y3, .ref 58] mu n :=
  J_callV (As := [.int y3, .int y2, .int y1, .int y0]) (rest := []) h dX8_colours_268 hM (jgV w1158 w1160 w36 w84 w1161) rfl (ci := 8) rfl rfl nmX8_add rfl hh (Nat.le_of_ble_eq_true rfl) rfl kk hn
theorem rX8_colours_271 {l : Launch} {G : jG} {X : jX} {Q : State → Prop} {n hg nc : Nat} {ret : Option FieldType} {mu : jM} (h : jOk l G X cX8_colours 1 ret RX8 hg nc)
    (k1 : J l G X Q 1 277 [.ref 58] [.int 0, .int 6, .int 5, .int 1, .ref 58] mu n) :
    J l G X Q 1 271 [.ref 58] [] mu n := by
  refine J_aload_n h dX8_colours_271 rfl rfl ?_
  refine J_iconst h dX8_colours_272 ci_1 ?_
  refine J_iconst h dX8_colours_273 ci_5 ?_
  refine J_bipush h dX8_colours_274 cb_6 ?_
  refine J_iconst h dX8_colours_276 ci_0 ?_
  exact k1
theorem rX8_colours_277 {l : Launch} {G : jG} {X : jX} {Q : State → Prop} {n hg nc : Nat} {ret : Option FieldType} {mu : jM} {y0 : Int32} {y1 : Int32} {y2 : Int32} {y3 : Int32} {Qc : jM → Prop} {h' : Nat} (h : jOk l G X cX8_colours 1 ret RX8 hg nc) (hM : jCv l G yX8_add cX8_add 5 h' (.ref 58 :: [.int y3, .int y2, .int y1, .int y0]) mu Qc) (hh : h' < hg ∧ 5 ≤ 21) (hn : n ≤ nc)
    (kk : ∀ mu', Qc mu' → J l G X Q 1 280 [.ref 58] [] mu' n) :
    J l G X Q 1 277 [.ref 58] [.int y0, .int y1, .int y2, .int y3, .ref 58] mu n :=
  J_callV (As := [.int y3, .int y2, .int y1, .int y0]) (rest := []) h dX8_colours_277 hM (jgV w1158 w1160 w36 w84 w1161) rfl (ci := 8) rfl rfl nmX8_add rfl hh (Nat.le_of_ble_eq_true rfl) rfl kk hn
theorem rX8_colours_280 {l : Launch} {G : jG} {X : jX} {Q : State → Prop} {n hg nc : Nat} {ret : Option FieldType} {mu : jM} (h : jOk l G X cX8_colours 1 ret RX8 hg nc)
    (k1 : J l G X Q 1 286 [.ref 58] [.int 0, .int 1, .int 4, .int 15, .ref 58] mu n) :
    J l G X Q 1 280 [.ref 58] [] mu n := by
  refine J_aload_n h dX8_colours_280 rfl rfl ?_
  refine J_bipush h dX8_colours_281 cb_15 ?_
  refine J_iconst h dX8_colours_283 ci_4 ?_
  refine J_iconst h dX8_colours_284 ci_1 ?_
  refine J_iconst h dX8_colours_285 ci_0 ?_
  exact k1
theorem rX8_colours_286 {l : Launch} {G : jG} {X : jX} {Q : State → Prop} {n hg nc : Nat} {ret : Option FieldType} {mu : jM} {y0 : Int32} {y1 : Int32} {y2 : Int32} {y3 : Int32} {Qc : jM → Prop} {h' : Nat} (h : jOk l G X cX8_colours 1 ret RX8 hg nc) (hM : jCv l G yX8_add cX8_add 5 h' (.ref 58 :: [.int y3, .int y2, .int y1, .int y0]) mu Qc) (hh : h' < hg ∧ 5 ≤ 21) (hn : n ≤ nc)
    (kk : ∀ mu', Qc mu' → J l G X Q 1 289 [.ref 58] [] mu' n) :
    J l G X Q 1 286 [.ref 58] [.int y0, .int y1, .int y2, .int y3, .ref 58] mu n :=
  J_callV (As := [.int y3, .int y2, .int y1, .int y0]) (rest := []) h dX8_colours_286 hM (jgV w1158 w1160 w36 w84 w1161) rfl (ci := 8) rfl rfl nmX8_add rfl hh (Nat.le_of_ble_eq_true rfl) rfl kk hn
theorem rX8_colours_289 {l : Launch} {G : jG} {X : jX} {Q : State → Prop} {n hg nc : Nat} {ret : Option FieldType} {mu : jM} (h : jOk l G X cX8_colours 1 ret RX8 hg nc)
    (k1 : J l G X Q 1 295 [.ref 58] [.int 0, .int 0, .int 5, .int 18, .ref 58] mu n) :
    J l G X Q 1 289 [.ref 58] [] mu n := by
  refine J_aload_n h dX8_colours_289 rfl rfl ?_
  refine J_bipush h dX8_colours_290 cb_18 ?_
  refine J_iconst h dX8_colours_292 ci_5 ?_
  refine J_iconst h dX8_colours_293 ci_0 ?_
  refine J_iconst h dX8_colours_294 ci_0 ?_
  exact k1
theorem rX8_colours_295 {l : Launch} {G : jG} {X : jX} {Q : State → Prop} {n hg nc : Nat} {ret : Option FieldType} {mu : jM} {y0 : Int32} {y1 : Int32} {y2 : Int32} {y3 : Int32} {Qc : jM → Prop} {h' : Nat} (h : jOk l G X cX8_colours 1 ret RX8 hg nc) (hM : jCv l G yX8_add cX8_add 5 h' (.ref 58 :: [.int y3, .int y2, .int y1, .int y0]) mu Qc) (hh : h' < hg ∧ 5 ≤ 21) (hn : n ≤ nc)
    (kk : ∀ mu', Qc mu' → J l G X Q 1 298 [.ref 58] [] mu' n) :
    J l G X Q 1 295 [.ref 58] [.int y0, .int y1, .int y2, .int y3, .ref 58] mu n :=
  J_callV (As := [.int y3, .int y2, .int y1, .int y0]) (rest := []) h dX8_colours_295 hM (jgV w1158 w1160 w36 w84 w1161) rfl (ci := 8) rfl rfl nmX8_add rfl hh (Nat.le_of_ble_eq_true rfl) rfl kk hn
/-! LockstepNetModel.builtin(I)I -/
theorem rX8_builtin_0 {l : Launch} {G : jG} {X : jX} {Q : State → Prop} {n hg nc : Nat} {ret : Option FieldType} {mu : jM} {x1 : Int32} (h : jOk l G X cX8_builtin 2 ret RX8 hg nc)
    (k3 : x1 < 0 → J l G X Q 2 37 [.ref 58, .int x1] [.int 0] (wr mu 58 0 1) n)
    (k11 : ¬ x1 < 0 → x1 ≤ 4 → (mu 58 18) = 0 → ¬ x1 = 0 → ¬ x1 = 1 → ¬ x1 = 2 → ¬ x1 = 3 → J l G X Q 2 91 [.ref 58, .int x1] [.ref 58] (wr (wr mu 58 0 0) 58 9 0) n)
    (k12 : ¬ x1 < 0 → x1 ≤ 4 → (mu 58 18) = 0 → ¬ x1 = 0 → ¬ x1 = 1 → ¬ x1 = 2 → x1 = 3 → J l G X Q 2 84 [.ref 58, .int x1] [.ref 58] (wr (wr mu 58 0 0) 58 9 0) n)
    (k13 : ¬ x1 < 0 → x1 ≤ 4 → (mu 58 18) = 0 → ¬ x1 = 0 → ¬ x1 = 1 → x1 = 2 → J l G X Q 2 72 [.ref 58, .int x1] [.ref 58] (wr (wr mu 58 0 0) 58 9 0) n)
    (k14 : ¬ x1 < 0 → x1 ≤ 4 → (mu 58 18) = 0 → ¬ x1 = 0 → x1 = 1 → J l G X Q 2 60 [.ref 58, .int x1] [.ref 58] (wr (wr mu 58 0 0) 58 9 0) n)
    (k15 : ¬ x1 < 0 → x1 ≤ 4 → (mu 58 18) = 0 → x1 = 0 → J l G X Q 2 48 [.ref 58, .int x1] [.ref 58] (wr (wr mu 58 0 0) 58 9 0) n)
    (k17 : ¬ x1 < 0 → x1 ≤ 4 → ¬ (mu 58 18) = 0 → J l G X Q 2 37 [.ref 58, .int x1] [.int 0] (wr mu 58 0 2) n)
    (k19 : ¬ x1 < 0 → ¬ x1 ≤ 4 → J l G X Q 2 37 [.ref 58, .int x1] [.int 0] (wr mu 58 0 1) n) :
    J l G X Q 2 0 [.ref 58, .int x1] [] mu n := by
  refine J_aload_n h dX8_builtin_0 rfl rfl ?_
  refine J_iload_n h dX8_builtin_1 rfl rfl ?_
  refine J_if_lt (tgt := 10) h dX8_builtin_2 (by decide) (fun q1 => ?_) (fun q1 => ?_)
  · skip
    refine J_iconst h dX8_builtin_10 ci_1 ?_
    refine J_goto (tgt := 26) h dX8_builtin_11 (by decide) ?_
    refine J_puti (k := 0) (ty0 := tyX8) h dX8_builtin_26 jc8 tyX8_ok nmX8 rfl rfl (by decide) rfl rfl rfl w984 ?_
    refine J_aload_n h dX8_builtin_29 rfl rfl ?_
    refine J_geti (k := 0) h dX8_builtin_30 jc8 rfl rfl (by decide) w984 ?_
    refine J_if_le (tgt := 38) h dX8_builtin_33 (by decide) (fun q2 => ?_) (fun q2 => ?_)
    · skip
      exact absurd (show (1 : Int32) ≤ (0 : Int32) from q2) (by decide)
    · skip
      refine J_iconst h dX8_builtin_36 ci_0 ?_
      exact k3 q1
  · skip
    refine J_iload_n h dX8_builtin_5 rfl rfl ?_
    refine J_iconst h dX8_builtin_6 ci_4 ?_
    refine J_icmp_le (tgt := 14) h dX8_builtin_7 (by decide) (fun q4 => ?_) (fun q4 => ?_)
    · skip
      refine J_aload_n h dX8_builtin_14 rfl rfl ?_
      refine J_geti (k := 18) h dX8_builtin_15 jc8 rfl rfl (by decide) w1002 ?_
      refine J_if_eq (tgt := 25) h dX8_builtin_18 (by decide) (fun q5 => ?_) (fun q5 => ?_)
      · skip
        refine J_iconst h dX8_builtin_25 ci_0 ?_
        refine J_puti (k := 0) (ty0 := tyX8) h dX8_builtin_26 jc8 tyX8_ok nmX8 rfl rfl (by decide) rfl rfl rfl w984 ?_
        refine J_aload_n h dX8_builtin_29 rfl rfl ?_
        refine J_geti (k := 0) h dX8_builtin_30 jc8 rfl rfl (by decide) w984 ?_
        refine J_if_le (tgt := 38) h dX8_builtin_33 (by decide) (fun q6 => ?_) (fun q6 => ?_)
        · skip
          refine J_aload_n h dX8_builtin_38 rfl rfl ?_
          refine J_iconst h dX8_builtin_39 ci_0 ?_
          refine J_puti (k := 9) (ty0 := tyX8) h dX8_builtin_40 jc8 tyX8_ok nmX8 rfl rfl (by decide) rfl rfl rfl w993 ?_
          refine J_iload_n h dX8_builtin_43 rfl rfl ?_
          refine J_if_ne (tgt := 54) h dX8_builtin_44 (by decide) (fun q7 => ?_) (fun q7 => ?_)
          · skip
            refine J_iload_n h dX8_builtin_54 rfl rfl ?_
            refine J_iconst h dX8_builtin_55 ci_1 ?_
            refine J_icmp_ne (tgt := 66) h dX8_builtin_56 (by decide) (fun q8 => ?_) (fun q8 => ?_)
            · skip
              refine J_iload_n h dX8_builtin_66 rfl rfl ?_
              refine J_iconst h dX8_builtin_67 ci_2 ?_
              refine J_icmp_ne (tgt := 78) h dX8_builtin_68 (by decide) (fun q9 => ?_) (fun q9 => ?_)
              · skip
                refine J_iload_n h dX8_builtin_78 rfl rfl ?_
                refine J_iconst h dX8_builtin_79 ci_3 ?_
                refine J_icmp_ne (tgt := 90) h dX8_builtin_80 (by decide) (fun q10 => ?_) (fun q10 => ?_)
                · skip
                  refine J_aload_n h dX8_builtin_90 rfl rfl ?_
                  exact k11 q1 q4 q5 q7 q8 q9 q10
                · skip
                  refine J_aload_n h dX8_builtin_83 rfl rfl ?_
                  exact k12 q1 q4 q5 q7 q8 q9 q10
              · skip
                refine J_aload_n h dX8_builtin_71 rfl rfl ?_
                exact k13 q1 q4 q5 q7 q8 q9
            · skip
              refine J_aload_n h dX8_builtin_59 rfl rfl ?_
              exact k14 q1 q4 q5 q7 q8
          · skip
            refine J_aload_n h dX8_builtin_47 rfl rfl ?_
            exact k15 q1 q4 q5 q7
        · skip
          exact absurd (show ¬ (0 : Int32) ≤ (0 : Int32) from q6) (by decide)
      · skip
        refine J_iconst h dX8_builtin_21 ci_2 ?_
        refine J_goto (tgt := 26) h dX8_builtin_22 (by decide) ?_
        refine J_puti (k := 0) (ty0 := tyX8) h dX8_builtin_26 jc8 tyX8_ok nmX8 rfl rfl (by decide) rfl rfl rfl w984 ?_
        refine J_aload_n h dX8_builtin_29 rfl rfl ?_
        refine J_geti (k := 0) h dX8_builtin_30 jc8 rfl rfl (by decide) w984 ?_
        refine J_if_le (tgt := 38) h dX8_builtin_33 (by decide) (fun q16 => ?_) (fun q16 => ?_)
        · skip
          exact absurd (show (2 : Int32) ≤ (0 : Int32) from q16) (by decide)
        · skip
          refine J_iconst h dX8_builtin_36 ci_0 ?_
          exact k17 q1 q4 q5
    · skip
      refine J_iconst h dX8_builtin_10 ci_1 ?_
      refine J_goto (tgt := 26) h dX8_builtin_11 (by decide) ?_
      refine J_puti (k := 0) (ty0 := tyX8) h dX8_builtin_26 jc8 tyX8_ok nmX8 rfl rfl (by decide) rfl rfl rfl w984 ?_
      refine J_aload_n h dX8_builtin_29 rfl rfl ?_
      refine J_geti (k := 0) h dX8_builtin_30 jc8 rfl rfl (by decide) w984 ?_
      refine J_if_le (tgt := 38) h dX8_builtin_33 (by decide) (fun q18 => ?_) (fun q18 => ?_)
      · skip
        exact absurd (show (1 : Int32) ≤ (0 : Int32) from q18) (by decide)
      · skip
        refine J_iconst h dX8_builtin_36 ci_0 ?_
        exact k19 q1 q4
theorem rX8_builtin_91 {l : Launch} {G : jG} {X : jX} {Q : State → Prop} {n hg nc : Nat} {ret : Option FieldType} {mu : jM} {x1 : Int32} {Qc : jM → Prop} {h' : Nat} (h : jOk l G X cX8_builtin 2 ret RX8 hg nc) (hM : jCv l G yX8_colours cX8_colours 1 h' (.ref 58 :: []) mu Qc) (hh : h' < hg ∧ 1 ≤ 21) (hn : n ≤ nc)
    (kk : ∀ mu', Qc mu' → J l G X Q 2 94 [.ref 58, .int x1] [] mu' n) :
    J l G X Q 2 91 [.ref 58, .int x1] [.ref 58] mu n :=
  J_callV (As := []) (rest := []) h dX8_builtin_91 hM (jgV w1174 w1176 w40 w84 w1177) rfl (ci := 8) rfl rfl nmX8_colours rfl hh (Nat.le_of_ble_eq_true rfl) rfl kk hn
theorem rX8_builtin_84 {l : Launch} {G : jG} {X : jX} {Q : State → Prop} {n hg nc : Nat} {ret : Option FieldType} {mu : jM} {x1 : Int32} {Qc : jM → Prop} {h' : Nat} (h : jOk l G X cX8_builtin 2 ret RX8 hg nc) (hM : jCv l G yX8_walks cX8_walks 1 h' (.ref 58 :: []) mu Qc) (hh : h' < hg ∧ 1 ≤ 21) (hn : n ≤ nc)
    (kk : ∀ mu', Qc mu' → J l G X Q 2 87 [.ref 58, .int x1] [] mu' n) :
    J l G X Q 2 84 [.ref 58, .int x1] [.ref 58] mu n :=
  J_callV (As := []) (rest := []) h dX8_builtin_84 hM (jgV w1170 w1172 w39 w84 w1173) rfl (ci := 8) rfl rfl nmX8_walks rfl hh (Nat.le_of_ble_eq_true rfl) rfl kk hn
theorem rX8_builtin_72 {l : Launch} {G : jG} {X : jX} {Q : State → Prop} {n hg nc : Nat} {ret : Option FieldType} {mu : jM} {x1 : Int32} {Qc : jM → Prop} {h' : Nat} (h : jOk l G X cX8_builtin 2 ret RX8 hg nc) (hM : jCv l G yX8_cells cX8_cells 1 h' (.ref 58 :: []) mu Qc) (hh : h' < hg ∧ 1 ≤ 21) (hn : n ≤ nc)
    (kk : ∀ mu', Qc mu' → J l G X Q 2 75 [.ref 58, .int x1] [] mu' n) :
    J l G X Q 2 72 [.ref 58, .int x1] [.ref 58] mu n :=
  J_callV (As := []) (rest := []) h dX8_builtin_72 hM (jgV w1166 w1168 w38 w84 w1169) rfl (ci := 8) rfl rfl nmX8_cells rfl hh (Nat.le_of_ble_eq_true rfl) rfl kk hn
theorem rX8_builtin_60 {l : Launch} {G : jG} {X : jX} {Q : State → Prop} {n hg nc : Nat} {ret : Option FieldType} {mu : jM} {x1 : Int32} {Qc : jM → Prop} {h' : Nat} (h : jOk l G X cX8_builtin 2 ret RX8 hg nc) (hM : jCv l G yX8_leasts cX8_leasts 1 h' (.ref 58 :: []) mu Qc) (hh : h' < hg ∧ 1 ≤ 21) (hn : n ≤ nc)
    (kk : ∀ mu', Qc mu' → J l G X Q 2 63 [.ref 58, .int x1] [] mu' n) :
    J l G X Q 2 60 [.ref 58, .int x1] [.ref 58] mu n :=
  J_callV (As := []) (rest := []) h dX8_builtin_60 hM (jgV w1162 w1164 w37 w84 w1165) rfl (ci := 8) rfl rfl nmX8_leasts rfl hh (Nat.le_of_ble_eq_true rfl) rfl kk hn
theorem rX8_builtin_48 {l : Launch} {G : jG} {X : jX} {Q : State → Prop} {n hg nc : Nat} {ret : Option FieldType} {mu : jM} {x1 : Int32} {Qc : jM → Prop} {h' : Nat} (h : jOk l G X cX8_builtin 2 ret RX8 hg nc) (hM : jCv l G yX8_layers cX8_layers 1 h' (.ref 58 :: []) mu Qc) (hh : h' < hg ∧ 1 ≤ 21) (hn : n ≤ nc)
    (kk : ∀ mu', Qc mu' → J l G X Q 2 51 [.ref 58, .int x1] [] mu' n) :
    J l G X Q 2 48 [.ref 58, .int x1] [.ref 58] mu n :=
  J_callV (As := []) (rest := []) h dX8_builtin_48 hM (jgV w1154 w1156 w35 w84 w1157) rfl (ci := 8) rfl rfl nmX8_layers rfl hh (Nat.le_of_ble_eq_true rfl) rfl kk hn
theorem rX8_builtin_94 {l : Launch} {G : jG} {X : jX} {Q : State → Prop} {n hg nc : Nat} {ret : Option FieldType} {mu : jM} {x1 : Int32} (h : jOk l G X cX8_builtin 2 ret RX8 hg nc)
    (k1 : J l G X Q 2 98 [.ref 58, .int x1] [.int (mu 58 9)] mu n) :
    J l G X Q 2 94 [.ref 58, .int x1] [] mu n := by
  refine J_aload_n h dX8_builtin_94 rfl rfl ?_
  refine J_geti (k := 9) h dX8_builtin_95 jc8 rfl rfl (by decide) w993 ?_
  exact k1
theorem rX8_builtin_87 {l : Launch} {G : jG} {X : jX} {Q : State → Prop} {n hg nc : Nat} {ret : Option FieldType} {mu : jM} {x1 : Int32} (h : jOk l G X cX8_builtin 2 ret RX8 hg nc)
    (k1 : J l G X Q 2 94 [.ref 58, .int x1] [] mu n) :
    J l G X Q 2 87 [.ref 58, .int x1] [] mu n := by
  refine J_goto (tgt := 94) h dX8_builtin_87 (by decide) ?_
  exact k1
theorem rX8_builtin_75 {l : Launch} {G : jG} {X : jX} {Q : State → Prop} {n hg nc : Nat} {ret : Option FieldType} {mu : jM} {x1 : Int32} (h : jOk l G X cX8_builtin 2 ret RX8 hg nc)
    (k1 : J l G X Q 2 94 [.ref 58, .int x1] [] mu n) :
    J l G X Q 2 75 [.ref 58, .int x1] [] mu n := by
  refine J_goto (tgt := 94) h dX8_builtin_75 (by decide) ?_
  exact k1
theorem rX8_builtin_63 {l : Launch} {G : jG} {X : jX} {Q : State → Prop} {n hg nc : Nat} {ret : Option FieldType} {mu : jM} {x1 : Int32} (h : jOk l G X cX8_builtin 2 ret RX8 hg nc)
    (k1 : J l G X Q 2 94 [.ref 58, .int x1] [] mu n) :
    J l G X Q 2 63 [.ref 58, .int x1] [] mu n := by
  refine J_goto (tgt := 94) h dX8_builtin_63 (by decide) ?_
  exact k1
theorem rX8_builtin_51 {l : Launch} {G : jG} {X : jX} {Q : State → Prop} {n hg nc : Nat} {ret : Option FieldType} {mu : jM} {x1 : Int32} (h : jOk l G X cX8_builtin 2 ret RX8 hg nc)
    (k1 : J l G X Q 2 94 [.ref 58, .int x1] [] mu n) :
    J l G X Q 2 51 [.ref 58, .int x1] [] mu n := by
  refine J_goto (tgt := 94) h dX8_builtin_51 (by decide) ?_
  exact k1
/-! LockstepNetModel.cutAt(I)V -/
theorem rX8_cutAt_0 {l : Launch} {G : jG} {X : jX} {Q : State → Prop} {n hg nc : Nat} {ret : Option FieldType} {mu : jM} {x1 : Int32} (h : jOk l G X cX8_cutAt 2 ret RX8 hg nc)
    (k3 : x1 < 0 → J l G X Q 2 51 [.ref 58, .int x1] [] (wr (wr mu 58 0 1) 58 9 (mu 58 9)) n)
    (k7 : ¬ x1 < 0 → x1 ≤ (mu 58 9) → (mu 58 18) = 0 → J l G X Q 2 51 [.ref 58, .int x1] [] (wr (wr mu 58 0 0) 58 9 x1) n)
    (k9 : ¬ x1 < 0 → x1 ≤ (mu 58 9) → ¬ (mu 58 18) = 0 → J l G X Q 2 51 [.ref 58, .int x1] [] (wr (wr mu 58 0 2) 58 9 (mu 58 9)) n)
    (k11 : ¬ x1 < 0 → ¬ x1 ≤ (mu 58 9) → J l G X Q 2 51 [.ref 58, .int x1] [] (wr (wr mu 58 0 1) 58 9 (mu 58 9)) n) :
    J l G X Q 2 0 [.ref 58, .int x1] [] mu n := by
  refine J_aload_n h dX8_cutAt_0 rfl rfl ?_
  refine J_iload_n h dX8_cutAt_1 rfl rfl ?_
  refine J_if_lt (tgt := 13) h dX8_cutAt_2 (by decide) (fun q1 => ?_) (fun q1 => ?_)
  · skip
    refine J_iconst h dX8_cutAt_13 ci_1 ?_
    refine J_goto (tgt := 29) h dX8_cutAt_14 (by decide) ?_
    refine J_puti (k := 0) (ty0 := tyX8) h dX8_cutAt_29 jc8 tyX8_ok nmX8 rfl rfl (by decide) rfl rfl rfl w984 ?_
    refine J_aload_n h dX8_cutAt_32 rfl rfl ?_
    refine J_aload_n h dX8_cutAt_33 rfl rfl ?_
    refine J_geti (k := 0) h dX8_cutAt_34 jc8 rfl rfl (by decide) w984 ?_
    refine J_if_le (tgt := 47) h dX8_cutAt_37 (by decide) (fun q2 => ?_) (fun q2 => ?_)
    · skip
      exact absurd (show (1 : Int32) ≤ (0 : Int32) from q2) (by decide)
    · skip
      refine J_aload_n h dX8_cutAt_40 rfl rfl ?_
      refine J_geti (k := 9) h dX8_cutAt_41 jc8 rfl rfl (by decide) w993 ?_
      refine J_goto (tgt := 48) h dX8_cutAt_44 (by decide) ?_
      refine J_puti (k := 9) (ty0 := tyX8) h dX8_cutAt_48 jc8 tyX8_ok nmX8 rfl rfl (by decide) rfl rfl rfl w993 ?_
      exact k3 q1
  · skip
    refine J_iload_n h dX8_cutAt_5 rfl rfl ?_
    refine J_aload_n h dX8_cutAt_6 rfl rfl ?_
    refine J_geti (k := 9) h dX8_cutAt_7 jc8 rfl rfl (by decide) w993 ?_
    refine J_icmp_le (tgt := 17) h dX8_cutAt_10 (by decide) (fun q4 => ?_) (fun q4 => ?_)
    · skip
      refine J_aload_n h dX8_cutAt_17 rfl rfl ?_
      refine J_geti (k := 18) h dX8_cutAt_18 jc8 rfl rfl (by decide) w1002 ?_
      refine J_if_eq (tgt := 28) h dX8_cutAt_21 (by decide) (fun q5 => ?_) (fun q5 => ?_)
      · skip
        refine J_iconst h dX8_cutAt_28 ci_0 ?_
        refine J_puti (k := 0) (ty0 := tyX8) h dX8_cutAt_29 jc8 tyX8_ok nmX8 rfl rfl (by decide) rfl rfl rfl w984 ?_
        refine J_aload_n h dX8_cutAt_32 rfl rfl ?_
        refine J_aload_n h dX8_cutAt_33 rfl rfl ?_
        refine J_geti (k := 0) h dX8_cutAt_34 jc8 rfl rfl (by decide) w984 ?_
        refine J_if_le (tgt := 47) h dX8_cutAt_37 (by decide) (fun q6 => ?_) (fun q6 => ?_)
        · skip
          refine J_iload_n h dX8_cutAt_47 rfl rfl ?_
          refine J_puti (k := 9) (ty0 := tyX8) h dX8_cutAt_48 jc8 tyX8_ok nmX8 rfl rfl (by decide) rfl rfl rfl w993 ?_
          exact k7 q1 q4 q5
        · skip
          exact absurd (show ¬ (0 : Int32) ≤ (0 : Int32) from q6) (by decide)
      · skip
        refine J_iconst h dX8_cutAt_24 ci_2 ?_
        refine J_goto (tgt := 29) h dX8_cutAt_25 (by decide) ?_
        refine J_puti (k := 0) (ty0 := tyX8) h dX8_cutAt_29 jc8 tyX8_ok nmX8 rfl rfl (by decide) rfl rfl rfl w984 ?_
        refine J_aload_n h dX8_cutAt_32 rfl rfl ?_
        refine J_aload_n h dX8_cutAt_33 rfl rfl ?_
        refine J_geti (k := 0) h dX8_cutAt_34 jc8 rfl rfl (by decide) w984 ?_
        refine J_if_le (tgt := 47) h dX8_cutAt_37 (by decide) (fun q8 => ?_) (fun q8 => ?_)
        · skip
          exact absurd (show (2 : Int32) ≤ (0 : Int32) from q8) (by decide)
        · skip
          refine J_aload_n h dX8_cutAt_40 rfl rfl ?_
          refine J_geti (k := 9) h dX8_cutAt_41 jc8 rfl rfl (by decide) w993 ?_
          refine J_goto (tgt := 48) h dX8_cutAt_44 (by decide) ?_
          refine J_puti (k := 9) (ty0 := tyX8) h dX8_cutAt_48 jc8 tyX8_ok nmX8 rfl rfl (by decide) rfl rfl rfl w993 ?_
          exact k9 q1 q4 q5
    · skip
      refine J_iconst h dX8_cutAt_13 ci_1 ?_
      refine J_goto (tgt := 29) h dX8_cutAt_14 (by decide) ?_
      refine J_puti (k := 0) (ty0 := tyX8) h dX8_cutAt_29 jc8 tyX8_ok nmX8 rfl rfl (by decide) rfl rfl rfl w984 ?_
      refine J_aload_n h dX8_cutAt_32 rfl rfl ?_
      refine J_aload_n h dX8_cutAt_33 rfl rfl ?_
      refine J_geti (k := 0) h dX8_cutAt_34 jc8 rfl rfl (by decide) w984 ?_
      refine J_if_le (tgt := 47) h dX8_cutAt_37 (by decide) (fun q10 => ?_) (fun q10 => ?_)
      · skip
        exact absurd (show (1 : Int32) ≤ (0 : Int32) from q10) (by decide)
      · skip
        refine J_aload_n h dX8_cutAt_40 rfl rfl ?_
        refine J_geti (k := 9) h dX8_cutAt_41 jc8 rfl rfl (by decide) w993 ?_
        refine J_goto (tgt := 48) h dX8_cutAt_44 (by decide) ?_
        refine J_puti (k := 9) (ty0 := tyX8) h dX8_cutAt_48 jc8 tyX8_ok nmX8 rfl rfl (by decide) rfl rfl rfl w993 ?_
        exact k11 q1 q4
/-! LockstepNetModel.isRegister(I)Z -/
theorem rX8_isRegister_0 {l : Launch} {G : jG} {X : jX} {Q : State → Prop} {n hg nc : Nat} {ret : Option FieldType} {mu : jM} {x0 : Int32} (h : jOk l G X cX8_isRegister 1 ret RX8 hg nc)
    (k2 : x0 < 0 → J l G X Q 1 14 [.int x0] [] mu n)
    (k4 : ¬ x0 < 0 → 8 ≤ x0 → J l G X Q 1 14 [.int x0] [] mu n)
    (k5 : ¬ x0 < 0 → ¬ 8 ≤ x0 → J l G X Q 1 15 [.int x0] [.int 1] mu n) :
    J l G X Q 1 0 [.int x0] [] mu n := by
  refine J_iload_n h dX8_isRegister_0 rfl rfl ?_
  refine J_if_lt (tgt := 14) h dX8_isRegister_1 (by decide) (fun q1 => ?_) (fun q1 => ?_)
  · skip
    exact k2 q1
  · skip
    refine J_iload_n h dX8_isRegister_4 rfl rfl ?_
    refine J_bipush h dX8_isRegister_5 cb_8 ?_
    refine J_icmp_ge (tgt := 14) h dX8_isRegister_7 (by decide) (fun q3 => ?_) (fun q3 => ?_)
    · skip
      exact k4 q1 q3
    · skip
      refine J_iconst h dX8_isRegister_10 ci_1 ?_
      refine J_goto (tgt := 15) h dX8_isRegister_11 (by decide) ?_
      exact k5 q1 q3
theorem rX8_isRegister_14 {l : Launch} {G : jG} {X : jX} {Q : State → Prop} {n hg nc : Nat} {ret : Option FieldType} {mu : jM} {x0 : Int32} (h : jOk l G X cX8_isRegister 1 ret RX8 hg nc)
    (k1 : J l G X Q 1 15 [.int x0] [.int 0] mu n) :
    J l G X Q 1 14 [.int x0] [] mu n := by
  refine J_iconst h dX8_isRegister_14 ci_0 ?_
  exact k1
/-! LockstepNetModel.usesA(I)Z -/
theorem rX8_usesA_0 {l : Launch} {G : jG} {X : jX} {Q : State → Prop} {n hg nc : Nat} {ret : Option FieldType} {mu : jM} {x0 : Int32} (h : jOk l G X cX8_usesA 1 ret RX8 hg nc)
    (k2 : x0 < 1 → J l G X Q 1 15 [.int x0] [] mu n)
    (k4 : ¬ x0 < 1 → 13 < x0 → J l G X Q 1 15 [.int x0] [] mu n)
    (k5 : ¬ x0 < 1 → ¬ 13 < x0 → J l G X Q 1 16 [.int x0] [.int 1] mu n) :
    J l G X Q 1 0 [.int x0] [] mu n := by
  refine J_iload_n h dX8_usesA_0 rfl rfl ?_
  refine J_iconst h dX8_usesA_1 ci_1 ?_
  refine J_icmp_lt (tgt := 15) h dX8_usesA_2 (by decide) (fun q1 => ?_) (fun q1 => ?_)
  · skip
    exact k2 q1
  · skip
    refine J_iload_n h dX8_usesA_5 rfl rfl ?_
    refine J_bipush h dX8_usesA_6 cb_13 ?_
    refine J_icmp_gt (tgt := 15) h dX8_usesA_8 (by decide) (fun q3 => ?_) (fun q3 => ?_)
    · skip
      exact k4 q1 q3
    · skip
      refine J_iconst h dX8_usesA_11 ci_1 ?_
      refine J_goto (tgt := 16) h dX8_usesA_12 (by decide) ?_
      exact k5 q1 q3
theorem rX8_usesA_15 {l : Launch} {G : jG} {X : jX} {Q : State → Prop} {n hg nc : Nat} {ret : Option FieldType} {mu : jM} {x0 : Int32} (h : jOk l G X cX8_usesA 1 ret RX8 hg nc)
    (k1 : J l G X Q 1 16 [.int x0] [.int 0] mu n) :
    J l G X Q 1 15 [.int x0] [] mu n := by
  refine J_iconst h dX8_usesA_15 ci_0 ?_
  exact k1
/-! LockstepNetModel.usesB(I)Z -/
theorem rX8_usesB_0 {l : Launch} {G : jG} {X : jX} {Q : State → Prop} {n hg nc : Nat} {ret : Option FieldType} {mu : jM} {x0 : Int32} (h : jOk l G X cX8_usesB 1 ret RX8 hg nc)
    (k2 : x0 < 2 → J l G X Q 1 15 [.int x0] [] mu n)
    (k4 : ¬ x0 < 2 → 11 < x0 → J l G X Q 1 15 [.int x0] [] mu n)
    (k5 : ¬ x0 < 2 → ¬ 11 < x0 → J l G X Q 1 16 [.int x0] [.int 1] mu n) :
    J l G X Q 1 0 [.int x0] [] mu n := by
  refine J_iload_n h dX8_usesB_0 rfl rfl ?_
  refine J_iconst h dX8_usesB_1 ci_2 ?_
  refine J_icmp_lt (tgt := 15) h dX8_usesB_2 (by decide) (fun q1 => ?_) (fun q1 => ?_)
  · skip
    exact k2 q1
  · skip
    refine J_iload_n h dX8_usesB_5 rfl rfl ?_
    refine J_bipush h dX8_usesB_6 cb_11 ?_
    refine J_icmp_gt (tgt := 15) h dX8_usesB_8 (by decide) (fun q3 => ?_) (fun q3 => ?_)
    · skip
      exact k4 q1 q3
    · skip
      refine J_iconst h dX8_usesB_11 ci_1 ?_
      refine J_goto (tgt := 16) h dX8_usesB_12 (by decide) ?_
      exact k5 q1 q3
theorem rX8_usesB_15 {l : Launch} {G : jG} {X : jX} {Q : State → Prop} {n hg nc : Nat} {ret : Option FieldType} {mu : jM} {x0 : Int32} (h : jOk l G X cX8_usesB 1 ret RX8 hg nc)
    (k1 : J l G X Q 1 16 [.int x0] [.int 0] mu n) :
    J l G X Q 1 15 [.int x0] [] mu n := by
  refine J_iconst h dX8_usesB_15 ci_0 ?_
  exact k1
/-! LockstepNetModel.lastOfEach(I)I -/
theorem rX8_lastOfEach_0 {l : Launch} {G : jG} {X : jX} {Q : State → Prop} {n hg nc : Nat} {ret : Option FieldType} {mu : jM} {x1 : Int32} (h : jOk l G X cX8_lastOfEach 5 ret RX8 hg nc)
    (k1 : J l G X Q 5 4 [.ref 58, .int x1, .int (-1), .int 0, .float 0] [] mu n) :
    J l G X Q 5 0 [.ref 58, .int x1, .float 0, .float 0, .float 0] [] mu n := by
  refine J_iconst h dX8_lastOfEach_0 ci_m1 ?_
  refine J_istore_n h dX8_lastOfEach_1 rfl (by decide) rfl ?_
  show J l G X Q 5 2 [.ref 58, .int x1, .int (-1), .float 0, .float 0] [] mu n
  refine J_iconst h dX8_lastOfEach_2 ci_0 ?_
  refine J_istore_n h dX8_lastOfEach_3 rfl (by decide) rfl ?_
  show J l G X Q 5 4 [.ref 58, .int x1, .int (-1), .int 0, .float 0] [] mu n
  exact k1
theorem rX8_lastOfEach_4 {l : Launch} {G : jG} {X : jX} {Q : State → Prop} {n hg nc : Nat} {ret : Option FieldType} {mu : jM} {x1 : Int32} {x2 : Int32} {x3 : Int32} (h : jOk l G X cX8_lastOfEach 5 ret RX8 hg nc) (s5 : ¬ x1 ≤ x3 → vp_in (4 * x3) 256) (s10 : ¬ x1 ≤ x3 → (mu 65 ((4 * x3)).toNatClampNeg) = 15 → ¬ x3 ≤ x2 → vp_in ((4 * x3) + 2) 256) (s14 : ¬ x1 ≤ x3 → (mu 65 ((4 * x3)).toNatClampNeg) = 15 → ¬ x3 ≤ x2 → ¬ (lg_cmp ((Int32.toInt64 x3) + (Int32.toInt64 (mu 65 (((4 * x3) + 2)).toNatClampNeg))) (Int32.toInt64 x1)) < 0 → vp_in ((4 * x3) + 2) 256)
    (k3 : x1 ≤ x3 → x2 < x1 → J l G X Q 5 92 [.ref 58, .int x1, .int x2, .int x3, .float 0] [.int (-1)] mu n)
    (k4 : x1 ≤ x3 → ¬ x2 < x1 → J l G X Q 5 92 [.ref 58, .int x1, .int x2, .int x3, .float 0] [.int x2] mu n)
    (k7 : ¬ x1 ≤ x3 → ¬ (mu 65 ((4 * x3)).toNatClampNeg) = 15 → J l G X Q 5 51 [.ref 58, .int x1, .int x2, .int x3, .float 0] [] mu n)
    (k9 : ¬ x1 ≤ x3 → (mu 65 ((4 * x3)).toNatClampNeg) = 15 → x3 ≤ x2 → J l G X Q 5 51 [.ref 58, .int x1, .int x2, .int x3, .float 0] [] mu n)
    (k12 : ¬ x1 ≤ x3 → (mu 65 ((4 * x3)).toNatClampNeg) = 15 → ¬ x3 ≤ x2 → (lg_cmp ((Int32.toInt64 x3) + (Int32.toInt64 (mu 65 (((4 * x3) + 2)).toNatClampNeg))) (Int32.toInt64 x1)) < 0 → J l G X Q 5 51 [.ref 58, .int x1, .int x2, .int x3, .float 0] [] mu n)
    (k15 : ¬ x1 ≤ x3 → (mu 65 ((4 * x3)).toNatClampNeg) = 15 → ¬ x3 ≤ x2 → ¬ (lg_cmp ((Int32.toInt64 x3) + (Int32.toInt64 (mu 65 (((4 * x3) + 2)).toNatClampNeg))) (Int32.toInt64 x1)) < 0 → J l G X Q 5 4 [.ref 58, .int x1, .int (x3 + (mu 65 (((4 * x3) + 2)).toNatClampNeg)), .int (x3 + 1), .int 1] [] mu n) :
    J l G X Q 5 4 [.ref 58, .int x1, .int x2, .int x3, .float 0] [] mu n := by
  refine J_iload_n h dX8_lastOfEach_4 rfl rfl ?_
  refine J_iload_n h dX8_lastOfEach_5 rfl rfl ?_
  refine J_icmp_ge (tgt := 82) h dX8_lastOfEach_6 (by decide) (fun q1 => ?_) (fun q1 => ?_)
  · skip
    refine J_iload_n h dX8_lastOfEach_82 rfl rfl ?_
    refine J_iload_n h dX8_lastOfEach_83 rfl rfl ?_
    refine J_icmp_lt (tgt := 91) h dX8_lastOfEach_84 (by decide) (fun q2 => ?_) (fun q2 => ?_)
    · skip
      refine J_iconst h dX8_lastOfEach_91 ci_m1 ?_
      exact k3 q1 q2
    · skip
      refine J_iload_n h dX8_lastOfEach_87 rfl rfl ?_
      refine J_goto (tgt := 92) h dX8_lastOfEach_88 (by decide) ?_
      exact k4 q1 q2
  · skip
    refine J_aload_n h dX8_lastOfEach_9 rfl rfl ?_
    refine J_getr (k := 10) h dX8_lastOfEach_10 jc8 rfl rfl (by decide) w994 ?_
    refine J_iconst h dX8_lastOfEach_13 ci_4 ?_
    refine J_iload_n h dX8_lastOfEach_14 rfl rfl ?_
    refine J_imul h dX8_lastOfEach_15 ?_
    refine J_iald h dX8_lastOfEach_16 rfl (s5 q1) ?_
    refine J_bipush h dX8_lastOfEach_17 cb_15 ?_
    refine J_icmp_ne (tgt := 51) h dX8_lastOfEach_19 (by decide) (fun q6 => ?_) (fun q6 => ?_)
    · skip
      exact k7 q1 q6
    · skip
      refine J_iload_n h dX8_lastOfEach_22 rfl rfl ?_
      refine J_iload_n h dX8_lastOfEach_23 rfl rfl ?_
      refine J_icmp_ge (tgt := 51) h dX8_lastOfEach_24 (by decide) (fun q8 => ?_) (fun q8 => ?_)
      · skip
        exact k9 q1 q6 q8
      · skip
        refine J_iload_n h dX8_lastOfEach_27 rfl rfl ?_
        refine J_i2l h dX8_lastOfEach_28 ?_
        refine J_aload_n h dX8_lastOfEach_29 rfl rfl ?_
        refine J_getr (k := 10) h dX8_lastOfEach_30 jc8 rfl rfl (by decide) w994 ?_
        refine J_iconst h dX8_lastOfEach_33 ci_4 ?_
        refine J_iload_n h dX8_lastOfEach_34 rfl rfl ?_
        refine J_imul h dX8_lastOfEach_35 ?_
        refine J_iconst h dX8_lastOfEach_36 ci_2 ?_
        refine J_iadd h dX8_lastOfEach_37 ?_
        refine J_iald h dX8_lastOfEach_38 rfl (s10 q1 q6 q8) ?_
        refine J_i2l h dX8_lastOfEach_39 ?_
        refine J_ladd h dX8_lastOfEach_40 ?_
        refine J_iload_n h dX8_lastOfEach_41 rfl rfl ?_
        refine J_i2l h dX8_lastOfEach_42 ?_
        refine J_lcmp h dX8_lastOfEach_43 ?_
        refine J_if_lt (tgt := 51) h dX8_lastOfEach_44 (by decide) (fun q11 => ?_) (fun q11 => ?_)
        · skip
          exact k12 q1 q6 q8 q11
        · skip
          refine J_iconst h dX8_lastOfEach_47 ci_1 ?_
          refine J_goto (tgt := 52) h dX8_lastOfEach_48 (by decide) ?_
          refine J_istore h dX8_lastOfEach_52 (by decide) rfl ?_
          show J l G X Q 5 54 [.ref 58, .int x1, .int x2, .int x3, .int 1] [] mu n
          refine J_iload h dX8_lastOfEach_54 rfl ?_
          refine J_if_eq (tgt := 74) h dX8_lastOfEach_56 (by decide) (fun q13 => ?_) (fun q13 => ?_)
          · skip
            exact absurd (show (1 : Int32) = (0 : Int32) from q13) (by decide)
          · skip
            refine J_iload_n h dX8_lastOfEach_59 rfl rfl ?_
            refine J_aload_n h dX8_lastOfEach_60 rfl rfl ?_
            refine J_getr (k := 10) h dX8_lastOfEach_61 jc8 rfl rfl (by decide) w994 ?_
            refine J_iconst h dX8_lastOfEach_64 ci_4 ?_
            refine J_iload_n h dX8_lastOfEach_65 rfl rfl ?_
            refine J_imul h dX8_lastOfEach_66 ?_
            refine J_iconst h dX8_lastOfEach_67 ci_2 ?_
            refine J_iadd h dX8_lastOfEach_68 ?_
            refine J_iald h dX8_lastOfEach_69 rfl (s14 q1 q6 q8 q11) ?_
            refine J_iadd h dX8_lastOfEach_70 ?_
            refine J_goto (tgt := 75) h dX8_lastOfEach_71 (by decide) ?_
            refine J_istore_n h dX8_lastOfEach_75 rfl (by decide) rfl ?_
            show J l G X Q 5 76 [.ref 58, .int x1, .int (x3 + (mu 65 (((4 * x3) + 2)).toNatClampNeg)), .int x3, .int 1] [] mu n
            refine J_iinc h dX8_lastOfEach_76 rfl (cc_1 _) (by decide) rfl ?_
            show J l G X Q 5 79 [.ref 58, .int x1, .int (x3 + (mu 65 (((4 * x3) + 2)).toNatClampNeg)), .int (x3 + 1), .int 1] [] mu n
            refine J_goto (tgt := 4) h dX8_lastOfEach_79 (by decide) ?_
            exact k15 q1 q6 q8 q11
theorem rX8_lastOfEach_51 {l : Launch} {G : jG} {X : jX} {Q : State → Prop} {n hg nc : Nat} {ret : Option FieldType} {mu : jM} {x1 : Int32} {x2 : Int32} {x3 : Int32} (h : jOk l G X cX8_lastOfEach 5 ret RX8 hg nc)
    (k2 : J l G X Q 5 4 [.ref 58, .int x1, .int x2, .int (x3 + 1), .int 0] [] mu n) :
    J l G X Q 5 51 [.ref 58, .int x1, .int x2, .int x3, .float 0] [] mu n := by
  refine J_iconst h dX8_lastOfEach_51 ci_0 ?_
  refine J_istore h dX8_lastOfEach_52 (by decide) rfl ?_
  show J l G X Q 5 54 [.ref 58, .int x1, .int x2, .int x3, .int 0] [] mu n
  refine J_iload h dX8_lastOfEach_54 rfl ?_
  refine J_if_eq (tgt := 74) h dX8_lastOfEach_56 (by decide) (fun q1 => ?_) (fun q1 => ?_)
  · skip
    refine J_iload_n h dX8_lastOfEach_74 rfl rfl ?_
    refine J_istore_n h dX8_lastOfEach_75 rfl (by decide) rfl ?_
    show J l G X Q 5 76 [.ref 58, .int x1, .int x2, .int x3, .int 0] [] mu n
    refine J_iinc h dX8_lastOfEach_76 rfl (cc_1 _) (by decide) rfl ?_
    show J l G X Q 5 79 [.ref 58, .int x1, .int x2, .int (x3 + 1), .int 0] [] mu n
    refine J_goto (tgt := 4) h dX8_lastOfEach_79 (by decide) ?_
    exact k2
  · skip
    exact absurd (show ¬ (0 : Int32) = (0 : Int32) from q1) (by decide)
theorem rX8_lastOfEach_4b {l : Launch} {G : jG} {X : jX} {Q : State → Prop} {n hg nc : Nat} {ret : Option FieldType} {mu : jM} {x1 : Int32} {x2 : Int32} {x3 : Int32} {x4 : Int32} (h : jOk l G X cX8_lastOfEach 5 ret RX8 hg nc) (s5 : ¬ x1 ≤ x3 → vp_in (4 * x3) 256) (s10 : ¬ x1 ≤ x3 → (mu 65 ((4 * x3)).toNatClampNeg) = 15 → ¬ x3 ≤ x2 → vp_in ((4 * x3) + 2) 256) (s14 : ¬ x1 ≤ x3 → (mu 65 ((4 * x3)).toNatClampNeg) = 15 → ¬ x3 ≤ x2 → ¬ (lg_cmp ((Int32.toInt64 x3) + (Int32.toInt64 (mu 65 (((4 * x3) + 2)).toNatClampNeg))) (Int32.toInt64 x1)) < 0 → vp_in ((4 * x3) + 2) 256)
    (k3 : x1 ≤ x3 → x2 < x1 → J l G X Q 5 92 [.ref 58, .int x1, .int x2, .int x3, .int x4] [.int (-1)] mu n)
    (k4 : x1 ≤ x3 → ¬ x2 < x1 → J l G X Q 5 92 [.ref 58, .int x1, .int x2, .int x3, .int x4] [.int x2] mu n)
    (k7 : ¬ x1 ≤ x3 → ¬ (mu 65 ((4 * x3)).toNatClampNeg) = 15 → J l G X Q 5 51 [.ref 58, .int x1, .int x2, .int x3, .int x4] [] mu n)
    (k9 : ¬ x1 ≤ x3 → (mu 65 ((4 * x3)).toNatClampNeg) = 15 → x3 ≤ x2 → J l G X Q 5 51 [.ref 58, .int x1, .int x2, .int x3, .int x4] [] mu n)
    (k12 : ¬ x1 ≤ x3 → (mu 65 ((4 * x3)).toNatClampNeg) = 15 → ¬ x3 ≤ x2 → (lg_cmp ((Int32.toInt64 x3) + (Int32.toInt64 (mu 65 (((4 * x3) + 2)).toNatClampNeg))) (Int32.toInt64 x1)) < 0 → J l G X Q 5 51 [.ref 58, .int x1, .int x2, .int x3, .int x4] [] mu n)
    (k15 : ¬ x1 ≤ x3 → (mu 65 ((4 * x3)).toNatClampNeg) = 15 → ¬ x3 ≤ x2 → ¬ (lg_cmp ((Int32.toInt64 x3) + (Int32.toInt64 (mu 65 (((4 * x3) + 2)).toNatClampNeg))) (Int32.toInt64 x1)) < 0 → J l G X Q 5 4 [.ref 58, .int x1, .int (x3 + (mu 65 (((4 * x3) + 2)).toNatClampNeg)), .int (x3 + 1), .int 1] [] mu n) :
    J l G X Q 5 4 [.ref 58, .int x1, .int x2, .int x3, .int x4] [] mu n := by
  refine J_iload_n h dX8_lastOfEach_4 rfl rfl ?_
  refine J_iload_n h dX8_lastOfEach_5 rfl rfl ?_
  refine J_icmp_ge (tgt := 82) h dX8_lastOfEach_6 (by decide) (fun q1 => ?_) (fun q1 => ?_)
  · skip
    refine J_iload_n h dX8_lastOfEach_82 rfl rfl ?_
    refine J_iload_n h dX8_lastOfEach_83 rfl rfl ?_
    refine J_icmp_lt (tgt := 91) h dX8_lastOfEach_84 (by decide) (fun q2 => ?_) (fun q2 => ?_)
    · skip
      refine J_iconst h dX8_lastOfEach_91 ci_m1 ?_
      exact k3 q1 q2
    · skip
      refine J_iload_n h dX8_lastOfEach_87 rfl rfl ?_
      refine J_goto (tgt := 92) h dX8_lastOfEach_88 (by decide) ?_
      exact k4 q1 q2
  · skip
    refine J_aload_n h dX8_lastOfEach_9 rfl rfl ?_
    refine J_getr (k := 10) h dX8_lastOfEach_10 jc8 rfl rfl (by decide) w994 ?_
    refine J_iconst h dX8_lastOfEach_13 ci_4 ?_
    refine J_iload_n h dX8_lastOfEach_14 rfl rfl ?_
    refine J_imul h dX8_lastOfEach_15 ?_
    refine J_iald h dX8_lastOfEach_16 rfl (s5 q1) ?_
    refine J_bipush h dX8_lastOfEach_17 cb_15 ?_
    refine J_icmp_ne (tgt := 51) h dX8_lastOfEach_19 (by decide) (fun q6 => ?_) (fun q6 => ?_)
    · skip
      exact k7 q1 q6
    · skip
      refine J_iload_n h dX8_lastOfEach_22 rfl rfl ?_
      refine J_iload_n h dX8_lastOfEach_23 rfl rfl ?_
      refine J_icmp_ge (tgt := 51) h dX8_lastOfEach_24 (by decide) (fun q8 => ?_) (fun q8 => ?_)
      · skip
        exact k9 q1 q6 q8
      · skip
        refine J_iload_n h dX8_lastOfEach_27 rfl rfl ?_
        refine J_i2l h dX8_lastOfEach_28 ?_
        refine J_aload_n h dX8_lastOfEach_29 rfl rfl ?_
        refine J_getr (k := 10) h dX8_lastOfEach_30 jc8 rfl rfl (by decide) w994 ?_
        refine J_iconst h dX8_lastOfEach_33 ci_4 ?_
        refine J_iload_n h dX8_lastOfEach_34 rfl rfl ?_
        refine J_imul h dX8_lastOfEach_35 ?_
        refine J_iconst h dX8_lastOfEach_36 ci_2 ?_
        refine J_iadd h dX8_lastOfEach_37 ?_
        refine J_iald h dX8_lastOfEach_38 rfl (s10 q1 q6 q8) ?_
        refine J_i2l h dX8_lastOfEach_39 ?_
        refine J_ladd h dX8_lastOfEach_40 ?_
        refine J_iload_n h dX8_lastOfEach_41 rfl rfl ?_
        refine J_i2l h dX8_lastOfEach_42 ?_
        refine J_lcmp h dX8_lastOfEach_43 ?_
        refine J_if_lt (tgt := 51) h dX8_lastOfEach_44 (by decide) (fun q11 => ?_) (fun q11 => ?_)
        · skip
          exact k12 q1 q6 q8 q11
        · skip
          refine J_iconst h dX8_lastOfEach_47 ci_1 ?_
          refine J_goto (tgt := 52) h dX8_lastOfEach_48 (by decide) ?_
          refine J_istore h dX8_lastOfEach_52 (by decide) rfl ?_
          show J l G X Q 5 54 [.ref 58, .int x1, .int x2, .int x3, .int 1] [] mu n
          refine J_iload h dX8_lastOfEach_54 rfl ?_
          refine J_if_eq (tgt := 74) h dX8_lastOfEach_56 (by decide) (fun q13 => ?_) (fun q13 => ?_)
          · skip
            exact absurd (show (1 : Int32) = (0 : Int32) from q13) (by decide)
          · skip
            refine J_iload_n h dX8_lastOfEach_59 rfl rfl ?_
            refine J_aload_n h dX8_lastOfEach_60 rfl rfl ?_
            refine J_getr (k := 10) h dX8_lastOfEach_61 jc8 rfl rfl (by decide) w994 ?_
            refine J_iconst h dX8_lastOfEach_64 ci_4 ?_
            refine J_iload_n h dX8_lastOfEach_65 rfl rfl ?_
            refine J_imul h dX8_lastOfEach_66 ?_
            refine J_iconst h dX8_lastOfEach_67 ci_2 ?_
            refine J_iadd h dX8_lastOfEach_68 ?_
            refine J_iald h dX8_lastOfEach_69 rfl (s14 q1 q6 q8 q11) ?_
            refine J_iadd h dX8_lastOfEach_70 ?_
            refine J_goto (tgt := 75) h dX8_lastOfEach_71 (by decide) ?_
            refine J_istore_n h dX8_lastOfEach_75 rfl (by decide) rfl ?_
            show J l G X Q 5 76 [.ref 58, .int x1, .int (x3 + (mu 65 (((4 * x3) + 2)).toNatClampNeg)), .int x3, .int 1] [] mu n
            refine J_iinc h dX8_lastOfEach_76 rfl (cc_1 _) (by decide) rfl ?_
            show J l G X Q 5 79 [.ref 58, .int x1, .int (x3 + (mu 65 (((4 * x3) + 2)).toNatClampNeg)), .int (x3 + 1), .int 1] [] mu n
            refine J_goto (tgt := 4) h dX8_lastOfEach_79 (by decide) ?_
            exact k15 q1 q6 q8 q11
theorem rX8_lastOfEach_51b {l : Launch} {G : jG} {X : jX} {Q : State → Prop} {n hg nc : Nat} {ret : Option FieldType} {mu : jM} {x1 : Int32} {x2 : Int32} {x3 : Int32} {x4 : Int32} (h : jOk l G X cX8_lastOfEach 5 ret RX8 hg nc)
    (k2 : J l G X Q 5 4 [.ref 58, .int x1, .int x2, .int (x3 + 1), .int 0] [] mu n) :
    J l G X Q 5 51 [.ref 58, .int x1, .int x2, .int x3, .int x4] [] mu n := by
  refine J_iconst h dX8_lastOfEach_51 ci_0 ?_
  refine J_istore h dX8_lastOfEach_52 (by decide) rfl ?_
  show J l G X Q 5 54 [.ref 58, .int x1, .int x2, .int x3, .int 0] [] mu n
  refine J_iload h dX8_lastOfEach_54 rfl ?_
  refine J_if_eq (tgt := 74) h dX8_lastOfEach_56 (by decide) (fun q1 => ?_) (fun q1 => ?_)
  · skip
    refine J_iload_n h dX8_lastOfEach_74 rfl rfl ?_
    refine J_istore_n h dX8_lastOfEach_75 rfl (by decide) rfl ?_
    show J l G X Q 5 76 [.ref 58, .int x1, .int x2, .int x3, .int 0] [] mu n
    refine J_iinc h dX8_lastOfEach_76 rfl (cc_1 _) (by decide) rfl ?_
    show J l G X Q 5 79 [.ref 58, .int x1, .int x2, .int (x3 + 1), .int 0] [] mu n
    refine J_goto (tgt := 4) h dX8_lastOfEach_79 (by decide) ?_
    exact k2
  · skip
    exact absurd (show ¬ (0 : Int32) = (0 : Int32) from q1) (by decide)
/-! LockstepNetModel.isMidst(IJ)Z -/
theorem rX8_isMidst_0 {l : Launch} {G : jG} {X : jX} {Q : State → Prop} {n hg nc : Nat} {ret : Option FieldType} {mu : jM} {x1 : Int32} {x2 : Int64} (h : jOk l G X cX8_isMidst 6 ret RX8 hg nc)
    (k1 : J l G X Q 6 8 [.ref 58, .int x1, .long x2, .float 0, .int 0, .int (x1 + 1)] [] mu n) :
    J l G X Q 6 0 [.ref 58, .int x1, .long x2, .float 0, .float 0, .float 0] [] mu n := by
  refine J_iconst h dX8_isMidst_0 ci_0 ?_
  refine J_istore h dX8_isMidst_1 (by decide) rfl ?_
  show J l G X Q 6 3 [.ref 58, .int x1, .long x2, .float 0, .int 0, .float 0] [] mu n
  refine J_iload_n h dX8_isMidst_3 rfl rfl ?_
  refine J_iconst h dX8_isMidst_4 ci_1 ?_
  refine J_iadd h dX8_isMidst_5 ?_
  refine J_istore h dX8_isMidst_6 (by decide) rfl ?_
  show J l G X Q 6 8 [.ref 58, .int x1, .long x2, .float 0, .int 0, .int (x1 + 1)] [] mu n
  exact k1
theorem rX8_isMidst_8 {l : Launch} {G : jG} {X : jX} {Q : State → Prop} {n hg nc : Nat} {ret : Option FieldType} {mu : jM} {x1 : Int32} {x2 : Int64} {x4 : Int32} {x5 : Int32} (h : jOk l G X cX8_isMidst 6 ret RX8 hg nc) (s7 : ¬ (mu 58 9) ≤ x5 → ¬ 0 ≤ (lg_cmp (Int32.toInt64 x5) x2) → x4 = 0 → vp_in (4 * x5) 256) (s10 : ¬ (mu 58 9) ≤ x5 → ¬ 0 ≤ (lg_cmp (Int32.toInt64 x5) x2) → x4 = 0 → (mu 65 ((4 * x5)).toNatClampNeg) = 15 → vp_in ((4 * x5) + 2) 256) (s13 : ¬ (mu 58 9) ≤ x5 → ¬ 0 ≤ (lg_cmp (Int32.toInt64 x5) x2) → x4 = 0 → (mu 65 ((4 * x5)).toNatClampNeg) = 15 → ¬ (mu 65 (((4 * x5) + 2)).toNatClampNeg) < 1 → vp_in ((4 * x5) + 2) 256)
    (k2 : (mu 58 9) ≤ x5 → J l G X Q 6 93 [.ref 58, .int x1, .long x2, .float 0, .int x4, .int x5] [] mu n)
    (k4 : ¬ (mu 58 9) ≤ x5 → 0 ≤ (lg_cmp (Int32.toInt64 x5) x2) → J l G X Q 6 93 [.ref 58, .int x1, .long x2, .float 0, .int x4, .int x5] [] mu n)
    (k6 : ¬ (mu 58 9) ≤ x5 → ¬ 0 ≤ (lg_cmp (Int32.toInt64 x5) x2) → ¬ x4 = 0 → J l G X Q 6 80 [.ref 58, .int x1, .long x2, .float 0, .int x4, .int x5] [] mu n)
    (k9 : ¬ (mu 58 9) ≤ x5 → ¬ 0 ≤ (lg_cmp (Int32.toInt64 x5) x2) → x4 = 0 → ¬ (mu 65 ((4 * x5)).toNatClampNeg) = 15 → J l G X Q 6 84 [.ref 58, .int x1, .long x2, .float 0, .int x4, .int x5] [] mu n)
    (k12 : ¬ (mu 58 9) ≤ x5 → ¬ 0 ≤ (lg_cmp (Int32.toInt64 x5) x2) → x4 = 0 → (mu 65 ((4 * x5)).toNatClampNeg) = 15 → (mu 65 (((4 * x5) + 2)).toNatClampNeg) < 1 → J l G X Q 6 84 [.ref 58, .int x1, .long x2, .float 0, .int x4, .int x5] [] mu n)
    (k15 : ¬ (mu 58 9) ≤ x5 → ¬ 0 ≤ (lg_cmp (Int32.toInt64 x5) x2) → x4 = 0 → (mu 65 ((4 * x5)).toNatClampNeg) = 15 → ¬ (mu 65 (((4 * x5) + 2)).toNatClampNeg) < 1 → (lg_cmp ((Int32.toInt64 x5) + (Int32.toInt64 (mu 65 (((4 * x5) + 2)).toNatClampNeg))) x2) < 0 → J l G X Q 6 84 [.ref 58, .int x1, .long x2, .float 0, .int x4, .int x5] [] mu n)
    (k16 : ¬ (mu 58 9) ≤ x5 → ¬ 0 ≤ (lg_cmp (Int32.toInt64 x5) x2) → x4 = 0 → (mu 65 ((4 * x5)).toNatClampNeg) = 15 → ¬ (mu 65 (((4 * x5) + 2)).toNatClampNeg) < 1 → ¬ (lg_cmp ((Int32.toInt64 x5) + (Int32.toInt64 (mu 65 (((4 * x5) + 2)).toNatClampNeg))) x2) < 0 → J l G X Q 6 80 [.ref 58, .int x1, .long x2, .float 0, .int x4, .int x5] [] mu n) :
    J l G X Q 6 8 [.ref 58, .int x1, .long x2, .float 0, .int x4, .int x5] [] mu n := by
  refine J_iload h dX8_isMidst_8 rfl ?_
  refine J_aload_n h dX8_isMidst_10 rfl rfl ?_
  refine J_geti (k := 9) h dX8_isMidst_11 jc8 rfl rfl (by decide) w993 ?_
  refine J_icmp_ge (tgt := 93) h dX8_isMidst_14 (by decide) (fun q1 => ?_) (fun q1 => ?_)
  · skip
    exact k2 q1
  · skip
    refine J_iload h dX8_isMidst_17 rfl ?_
    refine J_i2l h dX8_isMidst_19 ?_
    refine J_lload_n h dX8_isMidst_20 rfl rfl ?_
    refine J_lcmp h dX8_isMidst_21 ?_
    refine J_if_ge (tgt := 93) h dX8_isMidst_22 (by decide) (fun q3 => ?_) (fun q3 => ?_)
    · skip
      exact k4 q1 q3
    · skip
      refine J_iload h dX8_isMidst_25 rfl ?_
      refine J_if_ne (tgt := 80) h dX8_isMidst_27 (by decide) (fun q5 => ?_) (fun q5 => ?_)
      · skip
        exact k6 q1 q3 q5
      · skip
        refine J_aload_n h dX8_isMidst_30 rfl rfl ?_
        refine J_getr (k := 10) h dX8_isMidst_31 jc8 rfl rfl (by decide) w994 ?_
        refine J_iconst h dX8_isMidst_34 ci_4 ?_
        refine J_iload h dX8_isMidst_35 rfl ?_
        refine J_imul h dX8_isMidst_37 ?_
        refine J_iald h dX8_isMidst_38 rfl (s7 q1 q3 q5) ?_
        refine J_bipush h dX8_isMidst_39 cb_15 ?_
        refine J_icmp_ne (tgt := 84) h dX8_isMidst_41 (by decide) (fun q8 => ?_) (fun q8 => ?_)
        · skip
          exact k9 q1 q3 q5 q8
        · skip
          refine J_aload_n h dX8_isMidst_44 rfl rfl ?_
          refine J_getr (k := 10) h dX8_isMidst_45 jc8 rfl rfl (by decide) w994 ?_
          refine J_iconst h dX8_isMidst_48 ci_4 ?_
          refine J_iload h dX8_isMidst_49 rfl ?_
          refine J_imul h dX8_isMidst_51 ?_
          refine J_iconst h dX8_isMidst_52 ci_2 ?_
          refine J_iadd h dX8_isMidst_53 ?_
          refine J_iald h dX8_isMidst_54 rfl (s10 q1 q3 q5 q8) ?_
          refine J_iconst h dX8_isMidst_55 ci_1 ?_
          refine J_icmp_lt (tgt := 84) h dX8_isMidst_56 (by decide) (fun q11 => ?_) (fun q11 => ?_)
          · skip
            exact k12 q1 q3 q5 q8 q11
          · skip
            refine J_iload h dX8_isMidst_59 rfl ?_
            refine J_i2l h dX8_isMidst_61 ?_
            refine J_aload_n h dX8_isMidst_62 rfl rfl ?_
            refine J_getr (k := 10) h dX8_isMidst_63 jc8 rfl rfl (by decide) w994 ?_
            refine J_iconst h dX8_isMidst_66 ci_4 ?_
            refine J_iload h dX8_isMidst_67 rfl ?_
            refine J_imul h dX8_isMidst_69 ?_
            refine J_iconst h dX8_isMidst_70 ci_2 ?_
            refine J_iadd h dX8_isMidst_71 ?_
            refine J_iald h dX8_isMidst_72 rfl (s13 q1 q3 q5 q8 q11) ?_
            refine J_i2l h dX8_isMidst_73 ?_
            refine J_ladd h dX8_isMidst_74 ?_
            refine J_lload_n h dX8_isMidst_75 rfl rfl ?_
            refine J_lcmp h dX8_isMidst_76 ?_
            refine J_if_lt (tgt := 84) h dX8_isMidst_77 (by decide) (fun q14 => ?_) (fun q14 => ?_)
            · skip
              exact k15 q1 q3 q5 q8 q11 q14
            · skip
              exact k16 q1 q3 q5 q8 q11 q14
theorem rX8_isMidst_93 {l : Launch} {G : jG} {X : jX} {Q : State → Prop} {n hg nc : Nat} {ret : Option FieldType} {mu : jM} {x1 : Int32} {x2 : Int64} {x4 : Int32} {x5 : Int32} (h : jOk l G X cX8_isMidst 6 ret RX8 hg nc)
    (k1 : J l G X Q 6 95 [.ref 58, .int x1, .long x2, .float 0, .int x4, .int x5] [.int x4] mu n) :
    J l G X Q 6 93 [.ref 58, .int x1, .long x2, .float 0, .int x4, .int x5] [] mu n := by
  refine J_iload h dX8_isMidst_93 rfl ?_
  exact k1
theorem rX8_isMidst_80 {l : Launch} {G : jG} {X : jX} {Q : State → Prop} {n hg nc : Nat} {ret : Option FieldType} {mu : jM} {x1 : Int32} {x2 : Int64} {x4 : Int32} {x5 : Int32} (h : jOk l G X cX8_isMidst 6 ret RX8 hg nc)
    (k1 : J l G X Q 6 8 [.ref 58, .int x1, .long x2, .float 0, .int 1, .int (x5 + 1)] [] mu n) :
    J l G X Q 6 80 [.ref 58, .int x1, .long x2, .float 0, .int x4, .int x5] [] mu n := by
  refine J_iconst h dX8_isMidst_80 ci_1 ?_
  refine J_goto (tgt := 85) h dX8_isMidst_81 (by decide) ?_
  refine J_istore h dX8_isMidst_85 (by decide) rfl ?_
  show J l G X Q 6 87 [.ref 58, .int x1, .long x2, .float 0, .int 1, .int x5] [] mu n
  refine J_iinc h dX8_isMidst_87 rfl (cc_1 _) (by decide) rfl ?_
  show J l G X Q 6 90 [.ref 58, .int x1, .long x2, .float 0, .int 1, .int (x5 + 1)] [] mu n
  refine J_goto (tgt := 8) h dX8_isMidst_90 (by decide) ?_
  exact k1
theorem rX8_isMidst_84 {l : Launch} {G : jG} {X : jX} {Q : State → Prop} {n hg nc : Nat} {ret : Option FieldType} {mu : jM} {x1 : Int32} {x2 : Int64} {x4 : Int32} {x5 : Int32} (h : jOk l G X cX8_isMidst 6 ret RX8 hg nc)
    (k1 : J l G X Q 6 8 [.ref 58, .int x1, .long x2, .float 0, .int 0, .int (x5 + 1)] [] mu n) :
    J l G X Q 6 84 [.ref 58, .int x1, .long x2, .float 0, .int x4, .int x5] [] mu n := by
  refine J_iconst h dX8_isMidst_84 ci_0 ?_
  refine J_istore h dX8_isMidst_85 (by decide) rfl ?_
  show J l G X Q 6 87 [.ref 58, .int x1, .long x2, .float 0, .int 0, .int x5] [] mu n
  refine J_iinc h dX8_isMidst_87 rfl (cc_1 _) (by decide) rfl ?_
  show J l G X Q 6 90 [.ref 58, .int x1, .long x2, .float 0, .int 0, .int (x5 + 1)] [] mu n
  refine J_goto (tgt := 8) h dX8_isMidst_90 (by decide) ?_
  exact k1
/-! LockstepNetModel.isWrong(I)Z -/
theorem rX8_isWrong_0 {l : Launch} {G : jG} {X : jX} {Q : State → Prop} {n hg nc : Nat} {ret : Option FieldType} {mu : jM} {x1 : Int32} (h : jOk l G X cX8_isWrong 7 ret RX8 hg nc) (s1 : vp_in (4 * x1) 256) (s2 : vp_in ((4 * x1) + 2) 256)
    (k3 : J l G X Q 7 22 [.ref 58, .int x1, .int (mu 65 ((4 * x1)).toNatClampNeg), .int (mu 65 (((4 * x1) + 2)).toNatClampNeg), .float 0, .float 0, .float 0] [.int x1, .ref 58] mu n) :
    J l G X Q 7 0 [.ref 58, .int x1, .float 0, .float 0, .float 0, .float 0, .float 0] [] mu n := by
  refine J_aload_n h dX8_isWrong_0 rfl rfl ?_
  refine J_getr (k := 10) h dX8_isWrong_1 jc8 rfl rfl (by decide) w994 ?_
  refine J_iconst h dX8_isWrong_4 ci_4 ?_
  refine J_iload_n h dX8_isWrong_5 rfl rfl ?_
  refine J_imul h dX8_isWrong_6 ?_
  refine J_iald h dX8_isWrong_7 rfl (s1) ?_
  refine J_istore_n h dX8_isWrong_8 rfl (by decide) rfl ?_
  show J l G X Q 7 9 [.ref 58, .int x1, .int (mu 65 ((4 * x1)).toNatClampNeg), .float 0, .float 0, .float 0, .float 0] [] mu n
  refine J_aload_n h dX8_isWrong_9 rfl rfl ?_
  refine J_getr (k := 10) h dX8_isWrong_10 jc8 rfl rfl (by decide) w994 ?_
  refine J_iconst h dX8_isWrong_13 ci_4 ?_
  refine J_iload_n h dX8_isWrong_14 rfl rfl ?_
  refine J_imul h dX8_isWrong_15 ?_
  refine J_iconst h dX8_isWrong_16 ci_2 ?_
  refine J_iadd h dX8_isWrong_17 ?_
  refine J_iald h dX8_isWrong_18 rfl (s2) ?_
  refine J_istore_n h dX8_isWrong_19 rfl (by decide) rfl ?_
  show J l G X Q 7 20 [.ref 58, .int x1, .int (mu 65 ((4 * x1)).toNatClampNeg), .int (mu 65 (((4 * x1) + 2)).toNatClampNeg), .float 0, .float 0, .float 0] [] mu n
  refine J_aload_n h dX8_isWrong_20 rfl rfl ?_
  refine J_iload_n h dX8_isWrong_21 rfl rfl ?_
  exact k3
theorem rX8_isWrong_22 {l : Launch} {G : jG} {X : jX} {Q : State → Prop} {n hg nc : Nat} {ret : Option FieldType} {mu : jM} {x1 : Int32} {x2 : Int32} {x3 : Int32} {y0 : Int32} {Qc : Int32 → jM → Prop} {h' : Nat} (h : jOk l G X cX8_isWrong 7 ret RX8 hg nc) (hM : jCi l G yX8_lastOfEach cX8_lastOfEach 5 h' (some .int) (.ref 58 :: [.int y0]) mu Qc) (hh : h' < hg ∧ 5 ≤ 21) (hn : n ≤ nc)
    (kk : ∀ v mu', Qc v mu' → J l G X Q 7 25 [.ref 58, .int x1, .int x2, .int x3, .float 0, .float 0, .float 0] (.int v :: []) mu' n) :
    J l G X Q 7 22 [.ref 58, .int x1, .int x2, .int x3, .float 0, .float 0, .float 0] [.int y0, .ref 58] mu n :=
  J_callVi (As := [.int y0]) (rest := []) h dX8_isWrong_22 hM (jgV w1194 w1196 w43 w84 w1197) rfl (ci := 8) rfl rfl nmX8_lastOfEach rfl hh (Nat.le_of_ble_eq_true rfl) rfl kk hn
theorem rX8_isWrong_25 {l : Launch} {G : jG} {X : jX} {Q : State → Prop} {n hg nc : Nat} {ret : Option FieldType} {mu : jM} {x1 : Int32} {x2 : Int32} {x3 : Int32} {y0 : Int32} (h : jOk l G X cX8_isWrong 7 ret RX8 hg nc) (s5 : ¬ x2 < 0 → ¬ 21 < x2 → vp_in ((4 * x1) + 1) 256)
    (k2 : x2 < 0 → J l G X Q 7 90 [.ref 58, .int x1, .int x2, .int x3, .int y0, .float 0, .float 0] [] mu n)
    (k4 : ¬ x2 < 0 → 21 < x2 → J l G X Q 7 90 [.ref 58, .int x1, .int x2, .int x3, .int y0, .float 0, .float 0] [] mu n)
    (k6 : ¬ x2 < 0 → ¬ 21 < x2 → J l G X Q 7 47 [.ref 58, .int x1, .int x2, .int x3, .int y0, .float 0, .float 0] [.int (mu 65 (((4 * x1) + 1)).toNatClampNeg)] mu n) :
    J l G X Q 7 25 [.ref 58, .int x1, .int x2, .int x3, .float 0, .float 0, .float 0] [.int y0] mu n := by
  refine J_istore h dX8_isWrong_25 (by decide) rfl ?_
  show J l G X Q 7 27 [.ref 58, .int x1, .int x2, .int x3, .int y0, .float 0, .float 0] [] mu n
  refine J_iload_n h dX8_isWrong_27 rfl rfl ?_
  refine J_if_lt (tgt := 90) h dX8_isWrong_28 (by decide) (fun q1 => ?_) (fun q1 => ?_)
  · skip
    exact k2 q1
  · skip
    refine J_iload_n h dX8_isWrong_31 rfl rfl ?_
    refine J_bipush h dX8_isWrong_32 cb_21 ?_
    refine J_icmp_gt (tgt := 90) h dX8_isWrong_34 (by decide) (fun q3 => ?_) (fun q3 => ?_)
    · skip
      exact k4 q1 q3
    · skip
      refine J_aload_n h dX8_isWrong_37 rfl rfl ?_
      refine J_getr (k := 10) h dX8_isWrong_38 jc8 rfl rfl (by decide) w994 ?_
      refine J_iconst h dX8_isWrong_41 ci_4 ?_
      refine J_iload_n h dX8_isWrong_42 rfl rfl ?_
      refine J_imul h dX8_isWrong_43 ?_
      refine J_iconst h dX8_isWrong_44 ci_1 ?_
      refine J_iadd h dX8_isWrong_45 ?_
      refine J_iald h dX8_isWrong_46 rfl (s5 q1 q3) ?_
      exact k6 q1 q3
theorem rX8_isWrong_90 {l : Launch} {G : jG} {X : jX} {Q : State → Prop} {n hg nc : Nat} {ret : Option FieldType} {mu : jM} {x1 : Int32} {x2 : Int32} {x3 : Int32} {x4 : Int32} (h : jOk l G X cX8_isWrong 7 ret RX8 hg nc)
    (k1 : J l G X Q 7 91 [.ref 58, .int x1, .int x2, .int x3, .int x4, .float 0, .float 0] [.int 1] mu n) :
    J l G X Q 7 90 [.ref 58, .int x1, .int x2, .int x3, .int x4, .float 0, .float 0] [] mu n := by
  refine J_iconst h dX8_isWrong_90 ci_1 ?_
  exact k1
theorem rX8_isWrong_47 {l : Launch} {G : jG} {X : jX} {Q : State → Prop} {n hg nc : Nat} {ret : Option FieldType} {mu : jM} {x1 : Int32} {x2 : Int32} {x3 : Int32} {x4 : Int32} {y0 : Int32} {Qc : Int32 → jM → Prop} {h' : Nat} (h : jOk l G X cX8_isWrong 7 ret RX8 hg nc) (hM : jCi l G yX8_isRegister cX8_isRegister 1 h' (some .boolean) [.int y0] mu Qc) (hh : h' < hg ∧ 1 ≤ 21) (hn : n ≤ nc)
    (kk : ∀ v mu', Qc v mu' → J l G X Q 7 50 [.ref 58, .int x1, .int x2, .int x3, .int x4, .float 0, .float 0] (.int v :: []) mu' n) :
    J l G X Q 7 47 [.ref 58, .int x1, .int x2, .int x3, .int x4, .float 0, .float 0] [.int y0] mu n :=
  J_callSi (As := [.int y0]) (rest := []) h dX8_isWrong_47 hM (jgS w1198 w1199 w84 w1200) nmX8_isRegister rfl hh (Nat.le_of_ble_eq_true rfl) rfl kk hn
theorem rX8_isWrong_50 {l : Launch} {G : jG} {X : jX} {Q : State → Prop} {n hg nc : Nat} {ret : Option FieldType} {mu : jM} {x1 : Int32} {x2 : Int32} {x3 : Int32} {x4 : Int32} {y0 : Int32} (h : jOk l G X cX8_isWrong 7 ret RX8 hg nc)
    (k2 : y0 = 0 → J l G X Q 7 90 [.ref 58, .int x1, .int x2, .int x3, .int x4, .float 0, .float 0] [] mu n)
    (k3 : ¬ y0 = 0 → J l G X Q 7 54 [.ref 58, .int x1, .int x2, .int x3, .int x4, .float 0, .float 0] [.int x2] mu n) :
    J l G X Q 7 50 [.ref 58, .int x1, .int x2, .int x3, .int x4, .float 0, .float 0] [.int y0] mu n := by
  refine J_if_eq (tgt := 90) h dX8_isWrong_50 (by decide) (fun q1 => ?_) (fun q1 => ?_)
  · skip
    exact k2 q1
  · skip
    refine J_iload_n h dX8_isWrong_53 rfl rfl ?_
    exact k3 q1
theorem rX8_isWrong_54 {l : Launch} {G : jG} {X : jX} {Q : State → Prop} {n hg nc : Nat} {ret : Option FieldType} {mu : jM} {x1 : Int32} {x2 : Int32} {x3 : Int32} {x4 : Int32} {y0 : Int32} {Qc : Int32 → jM → Prop} {h' : Nat} (h : jOk l G X cX8_isWrong 7 ret RX8 hg nc) (hM : jCi l G yX8_usesA cX8_usesA 1 h' (some .boolean) [.int y0] mu Qc) (hh : h' < hg ∧ 1 ≤ 21) (hn : n ≤ nc)
    (kk : ∀ v mu', Qc v mu' → J l G X Q 7 57 [.ref 58, .int x1, .int x2, .int x3, .int x4, .float 0, .float 0] (.int v :: []) mu' n) :
    J l G X Q 7 54 [.ref 58, .int x1, .int x2, .int x3, .int x4, .float 0, .float 0] [.int y0] mu n :=
  J_callSi (As := [.int y0]) (rest := []) h dX8_isWrong_54 hM (jgS w1201 w1202 w84 w1203) nmX8_usesA rfl hh (Nat.le_of_ble_eq_true rfl) rfl kk hn
theorem rX8_isWrong_57 {l : Launch} {G : jG} {X : jX} {Q : State → Prop} {n hg nc : Nat} {ret : Option FieldType} {mu : jM} {x1 : Int32} {x2 : Int32} {x3 : Int32} {x4 : Int32} {y0 : Int32} (h : jOk l G X cX8_isWrong 7 ret RX8 hg nc)
    (k2 : y0 = 0 → J l G X Q 7 67 [.ref 58, .int x1, .int x2, .int x3, .int x4, .float 0, .float 0] [] mu n)
    (k3 : ¬ y0 = 0 → J l G X Q 7 61 [.ref 58, .int x1, .int x2, .int x3, .int x4, .float 0, .float 0] [.int x3] mu n) :
    J l G X Q 7 57 [.ref 58, .int x1, .int x2, .int x3, .int x4, .float 0, .float 0] [.int y0] mu n := by
  refine J_if_eq (tgt := 67) h dX8_isWrong_57 (by decide) (fun q1 => ?_) (fun q1 => ?_)
  · skip
    exact k2 q1
  · skip
    refine J_iload_n h dX8_isWrong_60 rfl rfl ?_
    exact k3 q1
theorem rX8_isWrong_67 {l : Launch} {G : jG} {X : jX} {Q : State → Prop} {n hg nc : Nat} {ret : Option FieldType} {mu : jM} {x1 : Int32} {x2 : Int32} {x3 : Int32} {x4 : Int32} (h : jOk l G X cX8_isWrong 7 ret RX8 hg nc)
    (k1 : J l G X Q 7 68 [.ref 58, .int x1, .int x2, .int x3, .int x4, .float 0, .float 0] [.int x2] mu n) :
    J l G X Q 7 67 [.ref 58, .int x1, .int x2, .int x3, .int x4, .float 0, .float 0] [] mu n := by
  refine J_iload_n h dX8_isWrong_67 rfl rfl ?_
  exact k1
theorem rX8_isWrong_61 {l : Launch} {G : jG} {X : jX} {Q : State → Prop} {n hg nc : Nat} {ret : Option FieldType} {mu : jM} {x1 : Int32} {x2 : Int32} {x3 : Int32} {x4 : Int32} {y0 : Int32} {Qc : Int32 → jM → Prop} {h' : Nat} (h : jOk l G X cX8_isWrong 7 ret RX8 hg nc) (hM : jCi l G yX8_isRegister cX8_isRegister 1 h' (some .boolean) [.int y0] mu Qc) (hh : h' < hg ∧ 1 ≤ 21) (hn : n ≤ nc)
    (kk : ∀ v mu', Qc v mu' → J l G X Q 7 64 [.ref 58, .int x1, .int x2, .int x3, .int x4, .float 0, .float 0] (.int v :: []) mu' n) :
    J l G X Q 7 61 [.ref 58, .int x1, .int x2, .int x3, .int x4, .float 0, .float 0] [.int y0] mu n :=
  J_callSi (As := [.int y0]) (rest := []) h dX8_isWrong_61 hM (jgS w1198 w1199 w84 w1200) nmX8_isRegister rfl hh (Nat.le_of_ble_eq_true rfl) rfl kk hn
theorem rX8_isWrong_68 {l : Launch} {G : jG} {X : jX} {Q : State → Prop} {n hg nc : Nat} {ret : Option FieldType} {mu : jM} {x1 : Int32} {x2 : Int32} {x3 : Int32} {x4 : Int32} {y0 : Int32} {Qc : Int32 → jM → Prop} {h' : Nat} (h : jOk l G X cX8_isWrong 7 ret RX8 hg nc) (hM : jCi l G yX8_usesB cX8_usesB 1 h' (some .boolean) [.int y0] mu Qc) (hh : h' < hg ∧ 1 ≤ 21) (hn : n ≤ nc)
    (kk : ∀ v mu', Qc v mu' → J l G X Q 7 71 [.ref 58, .int x1, .int x2, .int x3, .int x4, .float 0, .float 0] (.int v :: []) mu' n) :
    J l G X Q 7 68 [.ref 58, .int x1, .int x2, .int x3, .int x4, .float 0, .float 0] [.int y0] mu n :=
  J_callSi (As := [.int y0]) (rest := []) h dX8_isWrong_68 hM (jgS w1204 w1205 w84 w1206) nmX8_usesB rfl hh (Nat.le_of_ble_eq_true rfl) rfl kk hn
theorem rX8_isWrong_64 {l : Launch} {G : jG} {X : jX} {Q : State → Prop} {n hg nc : Nat} {ret : Option FieldType} {mu : jM} {x1 : Int32} {x2 : Int32} {x3 : Int32} {x4 : Int32} {y0 : Int32} (h : jOk l G X cX8_isWrong 7 ret RX8 hg nc)
    (k2 : y0 = 0 → J l G X Q 7 90 [.ref 58, .int x1, .int x2, .int x3, .int x4, .float 0, .float 0] [] mu n)
    (k3 : ¬ y0 = 0 → J l G X Q 7 67 [.ref 58, .int x1, .int x2, .int x3, .int x4, .float 0, .float 0] [] mu n) :
    J l G X Q 7 64 [.ref 58, .int x1, .int x2, .int x3, .int x4, .float 0, .float 0] [.int y0] mu n := by
  refine J_if_eq (tgt := 90) h dX8_isWrong_64 (by decide) (fun q1 => ?_) (fun q1 => ?_)
  · skip
    exact k2 q1
  · skip
    exact k3 q1
theorem rX8_isWrong_71 {l : Launch} {G : jG} {X : jX} {Q : State → Prop} {n hg nc : Nat} {ret : Option FieldType} {mu : jM} {x1 : Int32} {x2 : Int32} {x3 : Int32} {x4 : Int32} {y0 : Int32} (h : jOk l G X cX8_isWrong 7 ret RX8 hg nc) (s3 : ¬ y0 = 0 → vp_in ((4 * x1) + 3) 256)
    (k2 : y0 = 0 → J l G X Q 7 92 [.ref 58, .int x1, .int x2, .int x3, .int x4, .float 0, .float 0] [] mu n)
    (k4 : ¬ y0 = 0 → J l G X Q 7 84 [.ref 58, .int x1, .int x2, .int x3, .int x4, .float 0, .float 0] [.int (mu 65 (((4 * x1) + 3)).toNatClampNeg)] mu n) :
    J l G X Q 7 71 [.ref 58, .int x1, .int x2, .int x3, .int x4, .float 0, .float 0] [.int y0] mu n := by
  refine J_if_eq (tgt := 92) h dX8_isWrong_71 (by decide) (fun q1 => ?_) (fun q1 => ?_)
  · skip
    exact k2 q1
  · skip
    refine J_aload_n h dX8_isWrong_74 rfl rfl ?_
    refine J_getr (k := 10) h dX8_isWrong_75 jc8 rfl rfl (by decide) w994 ?_
    refine J_iconst h dX8_isWrong_78 ci_4 ?_
    refine J_iload_n h dX8_isWrong_79 rfl rfl ?_
    refine J_imul h dX8_isWrong_80 ?_
    refine J_iconst h dX8_isWrong_81 ci_3 ?_
    refine J_iadd h dX8_isWrong_82 ?_
    refine J_iald h dX8_isWrong_83 rfl (s3 q1) ?_
    exact k4 q1
theorem rX8_isWrong_92 {l : Launch} {G : jG} {X : jX} {Q : State → Prop} {n hg nc : Nat} {ret : Option FieldType} {mu : jM} {x1 : Int32} {x2 : Int32} {x3 : Int32} {x4 : Int32} (h : jOk l G X cX8_isWrong 7 ret RX8 hg nc)
    (k2 : x2 < 16 → J l G X Q 7 116 [.ref 58, .int x1, .int x2, .int x3, .int x4, .float 0, .float 0] [] mu n)
    (k4 : ¬ x2 < 16 → 18 < x2 → J l G X Q 7 116 [.ref 58, .int x1, .int x2, .int x3, .int x4, .float 0, .float 0] [] mu n)
    (k6 : ¬ x2 < 16 → ¬ 18 < x2 → ¬ x4 = (-1) → J l G X Q 7 115 [.ref 58, .int x1, .int x2, .int x3, .int x4, .float 0, .float 0] [.int 0] mu n)
    (k7 : ¬ x2 < 16 → ¬ 18 < x2 → x4 = (-1) → J l G X Q 7 115 [.ref 58, .int x1, .int x2, .int x3, .int x4, .float 0, .float 0] [.int 1] mu n) :
    J l G X Q 7 92 [.ref 58, .int x1, .int x2, .int x3, .int x4, .float 0, .float 0] [] mu n := by
  refine J_iload_n h dX8_isWrong_92 rfl rfl ?_
  refine J_bipush h dX8_isWrong_93 cb_16 ?_
  refine J_icmp_lt (tgt := 116) h dX8_isWrong_95 (by decide) (fun q1 => ?_) (fun q1 => ?_)
  · skip
    exact k2 q1
  · skip
    refine J_iload_n h dX8_isWrong_98 rfl rfl ?_
    refine J_bipush h dX8_isWrong_99 cb_18 ?_
    refine J_icmp_gt (tgt := 116) h dX8_isWrong_101 (by decide) (fun q3 => ?_) (fun q3 => ?_)
    · skip
      exact k4 q1 q3
    · skip
      refine J_iload h dX8_isWrong_104 rfl ?_
      refine J_iconst h dX8_isWrong_106 ci_m1 ?_
      refine J_icmp_ne (tgt := 114) h dX8_isWrong_107 (by decide) (fun q5 => ?_) (fun q5 => ?_)
      · skip
        refine J_iconst h dX8_isWrong_114 ci_0 ?_
        exact k6 q1 q3 q5
      · skip
        refine J_iconst h dX8_isWrong_110 ci_1 ?_
        refine J_goto (tgt := 115) h dX8_isWrong_111 (by decide) ?_
        exact k7 q1 q3 q5
theorem rX8_isWrong_84 {l : Launch} {G : jG} {X : jX} {Q : State → Prop} {n hg nc : Nat} {ret : Option FieldType} {mu : jM} {x1 : Int32} {x2 : Int32} {x3 : Int32} {x4 : Int32} {y0 : Int32} {Qc : Int32 → jM → Prop} {h' : Nat} (h : jOk l G X cX8_isWrong 7 ret RX8 hg nc) (hM : jCi l G yX8_isRegister cX8_isRegister 1 h' (some .boolean) [.int y0] mu Qc) (hh : h' < hg ∧ 1 ≤ 21) (hn : n ≤ nc)
    (kk : ∀ v mu', Qc v mu' → J l G X Q 7 87 [.ref 58, .int x1, .int x2, .int x3, .int x4, .float 0, .float 0] (.int v :: []) mu' n) :
    J l G X Q 7 84 [.ref 58, .int x1, .int x2, .int x3, .int x4, .float 0, .float 0] [.int y0] mu n :=
  J_callSi (As := [.int y0]) (rest := []) h dX8_isWrong_84 hM (jgS w1198 w1199 w84 w1200) nmX8_isRegister rfl hh (Nat.le_of_ble_eq_true rfl) rfl kk hn
theorem rX8_isWrong_116 {l : Launch} {G : jG} {X : jX} {Q : State → Prop} {n hg nc : Nat} {ret : Option FieldType} {mu : jM} {x1 : Int32} {x2 : Int32} {x3 : Int32} {x4 : Int32} (h : jOk l G X cX8_isWrong 7 ret RX8 hg nc)
    (k2 : x2 = 14 → J l G X Q 7 130 [.ref 58, .int x1, .int x2, .int x3, .int x4, .float 0, .float 0] [] mu n)
    (k4 : ¬ x2 = 14 → x2 = 15 → J l G X Q 7 130 [.ref 58, .int x1, .int x2, .int x3, .int x4, .float 0, .float 0] [] mu n)
    (k5 : ¬ x2 = 14 → ¬ x2 = 15 → J l G X Q 7 129 [.ref 58, .int x1, .int x2, .int x3, .int x4, .float 0, .float 0] [.int 0] mu n) :
    J l G X Q 7 116 [.ref 58, .int x1, .int x2, .int x3, .int x4, .float 0, .float 0] [] mu n := by
  refine J_iload_n h dX8_isWrong_116 rfl rfl ?_
  refine J_bipush h dX8_isWrong_117 cb_14 ?_
  refine J_icmp_eq (tgt := 130) h dX8_isWrong_119 (by decide) (fun q1 => ?_) (fun q1 => ?_)
  · skip
    exact k2 q1
  · skip
    refine J_iload_n h dX8_isWrong_122 rfl rfl ?_
    refine J_bipush h dX8_isWrong_123 cb_15 ?_
    refine J_icmp_eq (tgt := 130) h dX8_isWrong_125 (by decide) (fun q3 => ?_) (fun q3 => ?_)
    · skip
      exact k4 q1 q3
    · skip
      refine J_iconst h dX8_isWrong_128 ci_0 ?_
      exact k5 q1 q3
theorem rX8_isWrong_87 {l : Launch} {G : jG} {X : jX} {Q : State → Prop} {n hg nc : Nat} {ret : Option FieldType} {mu : jM} {x1 : Int32} {x2 : Int32} {x3 : Int32} {x4 : Int32} {y0 : Int32} (h : jOk l G X cX8_isWrong 7 ret RX8 hg nc)
    (k2 : ¬ y0 = 0 → J l G X Q 7 92 [.ref 58, .int x1, .int x2, .int x3, .int x4, .float 0, .float 0] [] mu n)
    (k3 : y0 = 0 → J l G X Q 7 90 [.ref 58, .int x1, .int x2, .int x3, .int x4, .float 0, .float 0] [] mu n) :
    J l G X Q 7 87 [.ref 58, .int x1, .int x2, .int x3, .int x4, .float 0, .float 0] [.int y0] mu n := by
  refine J_if_ne (tgt := 92) h dX8_isWrong_87 (by decide) (fun q1 => ?_) (fun q1 => ?_)
  · skip
    exact k2 q1
  · skip
    exact k3 q1
theorem rX8_isWrong_130 {l : Launch} {G : jG} {X : jX} {Q : State → Prop} {n hg nc : Nat} {ret : Option FieldType} {mu : jM} {x1 : Int32} {x2 : Int32} {x3 : Int32} {x4 : Int32} (h : jOk l G X cX8_isWrong 7 ret RX8 hg nc)
    (k2 : x3 < 1 → J l G X Q 7 180 [.ref 58, .int x1, .int x2, .int x3, .int x4, .long ((Int32.toInt64 x1) + (Int32.toInt64 x3)), .float 0] [] mu n)
    (k4 : ¬ x3 < 1 → 0 ≤ (lg_cmp ((Int32.toInt64 x1) + (Int32.toInt64 x3)) (Int32.toInt64 (mu 58 9))) → J l G X Q 7 180 [.ref 58, .int x1, .int x2, .int x3, .int x4, .long ((Int32.toInt64 x1) + (Int32.toInt64 x3)), .float 0] [] mu n)
    (k6 : ¬ x3 < 1 → ¬ 0 ≤ (lg_cmp ((Int32.toInt64 x1) + (Int32.toInt64 x3)) (Int32.toInt64 (mu 58 9))) → x4 = (-1) → J l G X Q 7 168 [.ref 58, .int x1, .int x2, .int x3, .int x4, .long ((Int32.toInt64 x1) + (Int32.toInt64 x3)), .float 0] [] mu n)
    (k8 : ¬ x3 < 1 → ¬ 0 ≤ (lg_cmp ((Int32.toInt64 x1) + (Int32.toInt64 x3)) (Int32.toInt64 (mu 58 9))) → ¬ x4 = (-1) → 0 < (lg_cmp ((Int32.toInt64 x1) + (Int32.toInt64 x3)) (Int32.toInt64 x4)) → J l G X Q 7 180 [.ref 58, .int x1, .int x2, .int x3, .int x4, .long ((Int32.toInt64 x1) + (Int32.toInt64 x3)), .float 0] [] mu n)
    (k9 : ¬ x3 < 1 → ¬ 0 ≤ (lg_cmp ((Int32.toInt64 x1) + (Int32.toInt64 x3)) (Int32.toInt64 (mu 58 9))) → ¬ x4 = (-1) → ¬ 0 < (lg_cmp ((Int32.toInt64 x1) + (Int32.toInt64 x3)) (Int32.toInt64 x4)) → J l G X Q 7 168 [.ref 58, .int x1, .int x2, .int x3, .int x4, .long ((Int32.toInt64 x1) + (Int32.toInt64 x3)), .float 0] [] mu n) :
    J l G X Q 7 130 [.ref 58, .int x1, .int x2, .int x3, .int x4, .float 0, .float 0] [] mu n := by
  refine J_iload_n h dX8_isWrong_130 rfl rfl ?_
  refine J_i2l h dX8_isWrong_131 ?_
  refine J_iload_n h dX8_isWrong_132 rfl rfl ?_
  refine J_i2l h dX8_isWrong_133 ?_
  refine J_ladd h dX8_isWrong_134 ?_
  refine J_lstore h dX8_isWrong_135 (by decide) rfl ?_
  show J l G X Q 7 137 [.ref 58, .int x1, .int x2, .int x3, .int x4, .long ((Int32.toInt64 x1) + (Int32.toInt64 x3)), .float 0] [] mu n
  refine J_iload_n h dX8_isWrong_137 rfl rfl ?_
  refine J_iconst h dX8_isWrong_138 ci_1 ?_
  refine J_icmp_lt (tgt := 180) h dX8_isWrong_139 (by decide) (fun q1 => ?_) (fun q1 => ?_)
  · skip
    exact k2 q1
  · skip
    refine J_lload h dX8_isWrong_142 rfl ?_
    refine J_aload_n h dX8_isWrong_144 rfl rfl ?_
    refine J_geti (k := 9) h dX8_isWrong_145 jc8 rfl rfl (by decide) w993 ?_
    refine J_i2l h dX8_isWrong_148 ?_
    refine J_lcmp h dX8_isWrong_149 ?_
    refine J_if_ge (tgt := 180) h dX8_isWrong_150 (by decide) (fun q3 => ?_) (fun q3 => ?_)
    · skip
      exact k4 q1 q3
    · skip
      refine J_iload h dX8_isWrong_153 rfl ?_
      refine J_iconst h dX8_isWrong_155 ci_m1 ?_
      refine J_icmp_eq (tgt := 168) h dX8_isWrong_156 (by decide) (fun q5 => ?_) (fun q5 => ?_)
      · skip
        exact k6 q1 q3 q5
      · skip
        refine J_lload h dX8_isWrong_159 rfl ?_
        refine J_iload h dX8_isWrong_161 rfl ?_
        refine J_i2l h dX8_isWrong_163 ?_
        refine J_lcmp h dX8_isWrong_164 ?_
        refine J_if_gt (tgt := 180) h dX8_isWrong_165 (by decide) (fun q7 => ?_) (fun q7 => ?_)
        · skip
          exact k8 q1 q3 q5 q7
        · skip
          exact k9 q1 q3 q5 q7
theorem rX8_isWrong_180 {l : Launch} {G : jG} {X : jX} {Q : State → Prop} {n hg nc : Nat} {ret : Option FieldType} {mu : jM} {x1 : Int32} {x2 : Int32} {x3 : Int32} {x4 : Int32} {x5 : Int64} (h : jOk l G X cX8_isWrong 7 ret RX8 hg nc)
    (k1 : J l G X Q 7 181 [.ref 58, .int x1, .int x2, .int x3, .int x4, .long x5, .float 0] [.int 1] mu n) :
    J l G X Q 7 180 [.ref 58, .int x1, .int x2, .int x3, .int x4, .long x5, .float 0] [] mu n := by
  refine J_iconst h dX8_isWrong_180 ci_1 ?_
  exact k1
theorem rX8_isWrong_168 {l : Launch} {G : jG} {X : jX} {Q : State → Prop} {n hg nc : Nat} {ret : Option FieldType} {mu : jM} {x1 : Int32} {x2 : Int32} {x3 : Int32} {x4 : Int32} {x5 : Int64} (h : jOk l G X cX8_isWrong 7 ret RX8 hg nc)
    (k2 : ¬ x2 = 15 → J l G X Q 7 182 [.ref 58, .int x1, .int x2, .int x3, .int x4, .long x5, .float 0] [] mu n)
    (k4 : x2 = 15 → x4 = (-1) → J l G X Q 7 182 [.ref 58, .int x1, .int x2, .int x3, .int x4, .long x5, .float 0] [] mu n)
    (k5 : x2 = 15 → ¬ x4 = (-1) → J l G X Q 7 180 [.ref 58, .int x1, .int x2, .int x3, .int x4, .long x5, .float 0] [] mu n) :
    J l G X Q 7 168 [.ref 58, .int x1, .int x2, .int x3, .int x4, .long x5, .float 0] [] mu n := by
  refine J_iload_n h dX8_isWrong_168 rfl rfl ?_
  refine J_bipush h dX8_isWrong_169 cb_15 ?_
  refine J_icmp_ne (tgt := 182) h dX8_isWrong_171 (by decide) (fun q1 => ?_) (fun q1 => ?_)
  · skip
    exact k2 q1
  · skip
    refine J_iload h dX8_isWrong_174 rfl ?_
    refine J_iconst h dX8_isWrong_176 ci_m1 ?_
    refine J_icmp_eq (tgt := 182) h dX8_isWrong_177 (by decide) (fun q3 => ?_) (fun q3 => ?_)
    · skip
      exact k4 q1 q3
    · skip
      exact k5 q1 q3
theorem rX8_isWrong_182 {l : Launch} {G : jG} {X : jX} {Q : State → Prop} {n hg nc : Nat} {ret : Option FieldType} {mu : jM} {x1 : Int32} {x2 : Int32} {x3 : Int32} {x4 : Int32} {x5 : Int64} (h : jOk l G X cX8_isWrong 7 ret RX8 hg nc)
    (k2 : ¬ x2 = 14 → J l G X Q 7 210 [.ref 58, .int x1, .int x2, .int x3, .int x4, .long x5, .float 0] [] mu n)
    (k4 : x2 = 14 → ¬ x4 = (-1) → J l G X Q 7 210 [.ref 58, .int x1, .int x2, .int x3, .int x4, .long x5, .float 0] [] mu n)
    (k5 : x2 = 14 → x4 = (-1) → J l G X Q 7 200 [.ref 58, .int x1, .int x2, .int x3, .int x4, .long x5, .float 0] [.long (x5 + 1), .int x1, .ref 58] mu n) :
    J l G X Q 7 182 [.ref 58, .int x1, .int x2, .int x3, .int x4, .long x5, .float 0] [] mu n := by
  refine J_iload_n h dX8_isWrong_182 rfl rfl ?_
  refine J_bipush h dX8_isWrong_183 cb_14 ?_
  refine J_icmp_ne (tgt := 210) h dX8_isWrong_185 (by decide) (fun q1 => ?_) (fun q1 => ?_)
  · skip
    exact k2 q1
  · skip
    refine J_iload h dX8_isWrong_188 rfl ?_
    refine J_iconst h dX8_isWrong_190 ci_m1 ?_
    refine J_icmp_ne (tgt := 210) h dX8_isWrong_191 (by decide) (fun q3 => ?_) (fun q3 => ?_)
    · skip
      exact k4 q1 q3
    · skip
      refine J_aload_n h dX8_isWrong_194 rfl rfl ?_
      refine J_iload_n h dX8_isWrong_195 rfl rfl ?_
      refine J_lload h dX8_isWrong_196 rfl ?_
      refine J_lconst h dX8_isWrong_198 cl_1 ?_
      refine J_ladd h dX8_isWrong_199 ?_
      exact k5 q1 q3
theorem rX8_isWrong_210 {l : Launch} {G : jG} {X : jX} {Q : State → Prop} {n hg nc : Nat} {ret : Option FieldType} {mu : jM} {x1 : Int32} {x2 : Int32} {x3 : Int32} {x4 : Int32} {x5 : Int64} (h : jOk l G X cX8_isWrong 7 ret RX8 hg nc)
    (k1 : J l G X Q 7 211 [.ref 58, .int x1, .int x2, .int x3, .int x4, .long x5, .float 0] [.int 0] mu n) :
    J l G X Q 7 210 [.ref 58, .int x1, .int x2, .int x3, .int x4, .long x5, .float 0] [] mu n := by
  refine J_iconst h dX8_isWrong_210 ci_0 ?_
  exact k1
theorem rX8_isWrong_200 {l : Launch} {G : jG} {X : jX} {Q : State → Prop} {n hg nc : Nat} {ret : Option FieldType} {mu : jM} {x1 : Int32} {x2 : Int32} {x3 : Int32} {x4 : Int32} {x5 : Int64} {y0 : Int64} {y1 : Int32} {Qc : Int32 → jM → Prop} {h' : Nat} (h : jOk l G X cX8_isWrong 7 ret RX8 hg nc) (hM : jCi l G yX8_isMidst cX8_isMidst 6 h' (some .boolean) (.ref 58 :: [.int y1, .long y0]) mu Qc) (hh : h' < hg ∧ 6 ≤ 21) (hn : n ≤ nc)
    (kk : ∀ v mu', Qc v mu' → J l G X Q 7 203 [.ref 58, .int x1, .int x2, .int x3, .int x4, .long x5, .float 0] (.int v :: []) mu' n) :
    J l G X Q 7 200 [.ref 58, .int x1, .int x2, .int x3, .int x4, .long x5, .float 0] [.long y0, .int y1, .ref 58] mu n :=
  J_callVi (As := [.int y1, .long y0]) (rest := []) h dX8_isWrong_200 hM (jgV w1207 w1209 w44 w84 w1210) rfl (ci := 8) rfl rfl nmX8_isMidst rfl hh (Nat.le_of_ble_eq_true rfl) rfl kk hn
theorem rX8_isWrong_203 {l : Launch} {G : jG} {X : jX} {Q : State → Prop} {n hg nc : Nat} {ret : Option FieldType} {mu : jM} {x1 : Int32} {x2 : Int32} {x3 : Int32} {x4 : Int32} {x5 : Int64} {y0 : Int32} (h : jOk l G X cX8_isWrong 7 ret RX8 hg nc)
    (k2 : y0 = 0 → J l G X Q 7 210 [.ref 58, .int x1, .int x2, .int x3, .int x4, .long x5, .float 0] [] mu n)
    (k3 : ¬ y0 = 0 → J l G X Q 7 211 [.ref 58, .int x1, .int x2, .int x3, .int x4, .long x5, .float 0] [.int 1] mu n) :
    J l G X Q 7 203 [.ref 58, .int x1, .int x2, .int x3, .int x4, .long x5, .float 0] [.int y0] mu n := by
  refine J_if_eq (tgt := 210) h dX8_isWrong_203 (by decide) (fun q1 => ?_) (fun q1 => ?_)
  · skip
    exact k2 q1
  · skip
    refine J_iconst h dX8_isWrong_206 ci_1 ?_
    refine J_goto (tgt := 211) h dX8_isWrong_207 (by decide) ?_
    exact k3 q1
