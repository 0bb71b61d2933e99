/-! LockstepNet$Net.empty(I)V -/
theorem rX2_empty_0 {l : Launch} {G : jG} {X : jX} {Q : State → Prop} {n hg nc : Nat} {ret : Option FieldType} {mu : jM} {x1 : Int32} (h : jOk l G X cX2_empty 2 ret RX2 hg nc)
    (k1 : J l G X Q 2 15 [.ref 6, .int x1] [.int 0, .ref 9] (wr (wr mu 6 0 x1) 6 1 0) n) :
    J l G X Q 2 0 [.ref 6, .int x1] [] mu n := by
  refine J_aload_n h dX2_empty_0 rfl rfl ?_
  refine J_iload_n h dX2_empty_1 rfl rfl ?_
  refine J_puti (k := 0) (ty0 := tyX2) h dX2_empty_2 jc2 tyX2_ok nmX2 rfl rfl (by decide) rfl rfl rfl w140 ?_
  refine J_aload_n h dX2_empty_5 rfl rfl ?_
  refine J_iconst h dX2_empty_6 ci_0 ?_
  refine J_puti (k := 1) (ty0 := tyX2) h dX2_empty_7 jc2 tyX2_ok nmX2 rfl rfl (by decide) rfl rfl rfl w145 ?_
  refine J_aload_n h dX2_empty_10 rfl rfl ?_
  refine J_getr (k := 4) h dX2_empty_11 jc2 rfl rfl (by decide) w152 ?_
  refine J_iconst h dX2_empty_14 ci_0 ?_
  exact k1
theorem rX2_empty_15 {l : Launch} {G : jG} {X : jX} {Q : State → Prop} {n hg nc : Nat} {ret : Option FieldType} {mu : jM} {x1 : Int32} {y0 : Int32} {Qc : jM → Prop} {h' : Nat} (h : jOk l G X cX2_empty 2 ret RX2 hg nc) (hM : jCv l G yJ7_fill_53178 cJ7_fill_53178 4 h' [.ref 9, .int y0] mu Qc) (hh : h' < hg ∧ 4 ≤ 21) (hn : n ≤ nc)
    (kk : ∀ mu', Qc mu' → J l G X Q 2 18 [.ref 6, .int x1] [] mu' n) :
    J l G X Q 2 15 [.ref 6, .int x1] [.int y0, .ref 9] mu n :=
  J_callS (As := [.ref 9, .int y0]) (rest := []) h dX2_empty_15 hM (jgS w513 w514 w90 w515) nmJ7_fill_53178 rfl hh (Nat.le_of_ble_eq_true rfl) rfl kk hn
theorem rX2_empty_18 {l : Launch} {G : jG} {X : jX} {Q : State → Prop} {n hg nc : Nat} {ret : Option FieldType} {mu : jM} {x1 : Int32} (h : jOk l G X cX2_empty 2 ret RX2 hg nc)
    (k1 : J l G X Q 2 23 [.ref 6, .int x1] [.int 0, .ref 10] mu n) :
    J l G X Q 2 18 [.ref 6, .int x1] [] mu n := by
  refine J_aload_n h dX2_empty_18 rfl rfl ?_
  refine J_getr (k := 5) h dX2_empty_19 jc2 rfl rfl (by decide) w155 ?_
  refine J_iconst h dX2_empty_22 ci_0 ?_
  exact k1
theorem rX2_empty_23 {l : Launch} {G : jG} {X : jX} {Q : State → Prop} {n hg nc : Nat} {ret : Option FieldType} {mu : jM} {x1 : Int32} {y0 : Int32} {Qc : jM → Prop} {h' : Nat} (h : jOk l G X cX2_empty 2 ret RX2 hg nc) (hM : jCv l G yJ7_fill_53178 cJ7_fill_53178 4 h' [.ref 10, .int y0] mu Qc) (hh : h' < hg ∧ 4 ≤ 21) (hn : n ≤ nc)
    (kk : ∀ mu', Qc mu' → J l G X Q 2 26 [.ref 6, .int x1] [] mu' n) :
    J l G X Q 2 23 [.ref 6, .int x1] [.int y0, .ref 10] mu n :=
  J_callS (As := [.ref 10, .int y0]) (rest := []) h dX2_empty_23 hM (jgS w513 w514 w90 w515) nmJ7_fill_53178 rfl hh (Nat.le_of_ble_eq_true rfl) rfl kk hn
/-! LockstepNet$Net.areLinked(II)Z -/
theorem rX2_areLinked_0 {l : Launch} {G : jG} {X : jX} {Q : State → Prop} {n hg nc : Nat} {ret : Option FieldType} {mu : jM} {x1 : Int32} {x2 : Int32} (h : jOk l G X cX2_areLinked 3 ret RX2 hg nc) (s1 : vp_in x1 24)
    (k3 : (((mu 10 (x1).toNatClampNeg) >>> (x2 &&& 31)) &&& 1) = 0 → J l G X Q 3 18 [.ref 6, .int x1, .int x2] [.int 0] mu n)
    (k4 : ¬ (((mu 10 (x1).toNatClampNeg) >>> (x2 &&& 31)) &&& 1) = 0 → J l G X Q 3 18 [.ref 6, .int x1, .int x2] [.int 1] mu n) :
    J l G X Q 3 0 [.ref 6, .int x1, .int x2] [] mu n := by
  refine J_aload_n h dX2_areLinked_0 rfl rfl ?_
  refine J_getr (k := 5) h dX2_areLinked_1 jc2 rfl rfl (by decide) w155 ?_
  refine J_iload_n h dX2_areLinked_4 rfl rfl ?_
  refine J_iald h dX2_areLinked_5 rfl (s1) ?_
  refine J_iload_n h dX2_areLinked_6 rfl rfl ?_
  refine J_ishr h dX2_areLinked_7 ?_
  refine J_iconst h dX2_areLinked_8 ci_1 ?_
  refine J_iand h dX2_areLinked_9 ?_
  refine J_if_eq (tgt := 17) h dX2_areLinked_10 (by decide) (fun q2 => ?_) (fun q2 => ?_)
  · skip
    refine J_iconst h dX2_areLinked_17 ci_0 ?_
    exact k3 q2
  · skip
    refine J_iconst h dX2_areLinked_13 ci_1 ?_
    refine J_goto (tgt := 18) h dX2_areLinked_14 (by decide) ?_
    exact k4 q2
/-! LockstepNet$Net.join(II)I -/
theorem rX2_join_0 {l : Launch} {G : jG} {X : jX} {Q : State → Prop} {n hg nc : Nat} {ret : Option FieldType} {mu : jM} {x1 : Int32} {x2 : Int32} (h : jOk l G X cX2_join 3 ret RX2 hg nc) (s1 : vp_in (mu 6 1) 60) (s2 : vp_in (mu 6 1) 60)
    (k3 : J l G X Q 3 23 [.ref 6, .int x1, .int x2] [.int x2, .int x1, .ref 6] (wr (wr mu 7 ((mu 6 1)).toNatClampNeg x1) 8 ((mu 6 1)).toNatClampNeg x2) n) :
    J l G X Q 3 0 [.ref 6, .int x1, .int x2] [] mu n := by
  refine J_aload_n h dX2_join_0 rfl rfl ?_
  refine J_getr (k := 2) h dX2_join_1 jc2 rfl rfl (by decide) w148 ?_
  refine J_aload_n h dX2_join_4 rfl rfl ?_
  refine J_geti (k := 1) h dX2_join_5 jc2 rfl rfl (by decide) w145 ?_
  refine J_iload_n h dX2_join_8 rfl rfl ?_
  refine J_iast h dX2_join_9 rfl (s1) ?_
  refine J_aload_n h dX2_join_10 rfl rfl ?_
  refine J_getr (k := 3) h dX2_join_11 jc2 rfl rfl (by decide) w150 ?_
  refine J_aload_n h dX2_join_14 rfl rfl ?_
  refine J_geti (k := 1) h dX2_join_15 jc2 rfl rfl (by decide) w145 ?_
  refine J_iload_n h dX2_join_18 rfl rfl ?_
  refine J_iast h dX2_join_19 rfl (s2) ?_
  refine J_aload_n h dX2_join_20 rfl rfl ?_
  refine J_iload_n h dX2_join_21 rfl rfl ?_
  refine J_iload_n h dX2_join_22 rfl rfl ?_
  exact k3
theorem rX2_join_23 {l : Launch} {G : jG} {X : jX} {Q : State → Prop} {n hg nc : Nat} {ret : Option FieldType} {mu : jM} {x1 : Int32} {x2 : Int32} {y0 : Int32} {y1 : Int32} {Qc : jM → Prop} {h' : Nat} (h : jOk l G X cX2_join 3 ret RX2 hg nc) (hM : jCv l G yX2_addPort cX2_addPort 3 h' (.ref 6 :: [.int y1, .int y0]) mu Qc) (hh : h' < hg ∧ 3 ≤ 21) (hn : n ≤ nc)
    (kk : ∀ mu', Qc mu' → J l G X Q 3 26 [.ref 6, .int x1, .int x2] [] mu' n) :
    J l G X Q 3 23 [.ref 6, .int x1, .int x2] [.int y0, .int y1, .ref 6] mu n :=
  J_callV (As := [.int y1, .int y0]) (rest := []) h dX2_join_23 hM (jgV w580 w582 w7 w78 w583) rfl (ci := 2) rfl rfl nmX2_addPort rfl hh (Nat.le_of_ble_eq_true rfl) rfl kk hn
theorem rX2_join_26 {l : Launch} {G : jG} {X : jX} {Q : State → Prop} {n hg nc : Nat} {ret : Option FieldType} {mu : jM} {x1 : Int32} {x2 : Int32} (h : jOk l G X cX2_join 3 ret RX2 hg nc)
    (k1 : J l G X Q 3 29 [.ref 6, .int x1, .int x2] [.int x1, .int x2, .ref 6] mu n) :
    J l G X Q 3 26 [.ref 6, .int x1, .int x2] [] mu n := by
  refine J_aload_n h dX2_join_26 rfl rfl ?_
  refine J_iload_n h dX2_join_27 rfl rfl ?_
  refine J_iload_n h dX2_join_28 rfl rfl ?_
  exact k1
theorem rX2_join_29 {l : Launch} {G : jG} {X : jX} {Q : State → Prop} {n hg nc : Nat} {ret : Option FieldType} {mu : jM} {x1 : Int32} {x2 : Int32} {y0 : Int32} {y1 : Int32} {Qc : jM → Prop} {h' : Nat} (h : jOk l G X cX2_join 3 ret RX2 hg nc) (hM : jCv l G yX2_addPort cX2_addPort 3 h' (.ref 6 :: [.int y1, .int y0]) mu Qc) (hh : h' < hg ∧ 3 ≤ 21) (hn : n ≤ nc)
    (kk : ∀ mu', Qc mu' → J l G X Q 3 32 [.ref 6, .int x1, .int x2] [] mu' n) :
    J l G X Q 3 29 [.ref 6, .int x1, .int x2] [.int y0, .int y1, .ref 6] mu n :=
  J_callV (As := [.int y1, .int y0]) (rest := []) h dX2_join_29 hM (jgV w580 w582 w7 w78 w583) rfl (ci := 2) rfl rfl nmX2_addPort rfl hh (Nat.le_of_ble_eq_true rfl) rfl kk hn
theorem rX2_join_32 {l : Launch} {G : jG} {X : jX} {Q : State → Prop} {n hg nc : Nat} {ret : Option FieldType} {mu : jM} {x1 : Int32} {x2 : Int32} (h : jOk l G X cX2_join 3 ret RX2 hg nc)
    (k1 : J l G X Q 3 48 [.ref 6, .int x1, .int x2] [.int (((mu 6 1) + 1) - 1)] (wr mu 6 1 ((mu 6 1) + 1)) n) :
    J l G X Q 3 32 [.ref 6, .int x1, .int x2] [] mu n := by
  refine J_aload_n h dX2_join_32 rfl rfl ?_
  refine J_dup h dX2_join_33 rfl ?_
  refine J_geti (k := 1) h dX2_join_34 jc2 rfl rfl (by decide) w145 ?_
  refine J_iconst h dX2_join_37 ci_1 ?_
  refine J_iadd h dX2_join_38 ?_
  refine J_puti (k := 1) (ty0 := tyX2) h dX2_join_39 jc2 tyX2_ok nmX2 rfl rfl (by decide) rfl rfl rfl w145 ?_
  refine J_aload_n h dX2_join_42 rfl rfl ?_
  refine J_geti (k := 1) h dX2_join_43 jc2 rfl rfl (by decide) w145 ?_
  refine J_iconst h dX2_join_46 ci_1 ?_
  refine J_isub h dX2_join_47 ?_
  exact k1
/-! LockstepNet$Net.addPort(II)V -/
theorem rX2_addPort_0 {l : Launch} {G : jG} {X : jX} {Q : State → Prop} {n hg nc : Nat} {ret : Option FieldType} {mu : jM} {x1 : Int32} {x2 : Int32} (h : jOk l G X cX2_addPort 3 ret RX2 hg nc) (s1 : vp_in x1 24) (s2 : vp_in ((x1 * 24) + (mu 9 (x1).toNatClampNeg)) 576) (s3 : vp_in x1 24) (s4 : vp_in ((x1 * 24) + x2) 576) (s5 : vp_in x1 24) (s6 : vp_in x1 24) (s7 : vp_in x1 24) (s8 : vp_in x1 24)
    (k9 : J l G X Q 3 56 [.ref 6, .int x1, .int x2] [] (wr (wr (wr (wr mu 11 (((x1 * 24) + (mu 9 (x1).toNatClampNeg))).toNatClampNeg x2) 12 (((x1 * 24) + x2)).toNatClampNeg (mu 9 (x1).toNatClampNeg)) 10 (x1).toNatClampNeg ((mu 10 (x1).toNatClampNeg) ||| (1 <<< (x2 &&& 31)))) 9 (x1).toNatClampNeg ((mu 9 (x1).toNatClampNeg) + 1)) n) :
    J l G X Q 3 0 [.ref 6, .int x1, .int x2] [] mu n := by
  refine J_aload_n h dX2_addPort_0 rfl rfl ?_
  refine J_getr (k := 6) h dX2_addPort_1 jc2 rfl rfl (by decide) w158 ?_
  refine J_iload_n h dX2_addPort_4 rfl rfl ?_
  refine J_bipush h dX2_addPort_5 cb_24 ?_
  refine J_imul h dX2_addPort_7 ?_
  refine J_aload_n h dX2_addPort_8 rfl rfl ?_
  refine J_getr (k := 4) h dX2_addPort_9 jc2 rfl rfl (by decide) w152 ?_
  refine J_iload_n h dX2_addPort_12 rfl rfl ?_
  refine J_iald h dX2_addPort_13 rfl (s1) ?_
  refine J_iadd h dX2_addPort_14 ?_
  refine J_iload_n h dX2_addPort_15 rfl rfl ?_
  refine J_iast h dX2_addPort_16 rfl (s2) ?_
  refine J_aload_n h dX2_addPort_17 rfl rfl ?_
  refine J_getr (k := 7) h dX2_addPort_18 jc2 rfl rfl (by decide) w161 ?_
  refine J_iload_n h dX2_addPort_21 rfl rfl ?_
  refine J_bipush h dX2_addPort_22 cb_24 ?_
  refine J_imul h dX2_addPort_24 ?_
  refine J_iload_n h dX2_addPort_25 rfl rfl ?_
  refine J_iadd h dX2_addPort_26 ?_
  refine J_aload_n h dX2_addPort_27 rfl rfl ?_
  refine J_getr (k := 4) h dX2_addPort_28 jc2 rfl rfl (by decide) w152 ?_
  refine J_iload_n h dX2_addPort_31 rfl rfl ?_
  refine J_iald h dX2_addPort_32 rfl (s3) ?_
  refine J_iast h dX2_addPort_33 rfl (s4) ?_
  refine J_aload_n h dX2_addPort_34 rfl rfl ?_
  refine J_getr (k := 5) h dX2_addPort_35 jc2 rfl rfl (by decide) w155 ?_
  refine J_iload_n h dX2_addPort_38 rfl rfl ?_
  refine J_dup2 h dX2_addPort_39 rfl rfl ?_
  refine J_iald h dX2_addPort_40 rfl (s5) ?_
  refine J_iconst h dX2_addPort_41 ci_1 ?_
  refine J_iload_n h dX2_addPort_42 rfl rfl ?_
  refine J_ishl h dX2_addPort_43 ?_
  refine J_ior h dX2_addPort_44 ?_
  refine J_iast h dX2_addPort_45 rfl (s6) ?_
  refine J_aload_n h dX2_addPort_46 rfl rfl ?_
  refine J_getr (k := 4) h dX2_addPort_47 jc2 rfl rfl (by decide) w152 ?_
  refine J_iload_n h dX2_addPort_50 rfl rfl ?_
  refine J_dup2 h dX2_addPort_51 rfl rfl ?_
  refine J_iald h dX2_addPort_52 rfl (s7) ?_
  refine J_iconst h dX2_addPort_53 ci_1 ?_
  refine J_iadd h dX2_addPort_54 ?_
  refine J_iast h dX2_addPort_55 rfl (s8) ?_
  exact k9
/-! LockstepNet$Net.nextTo(I)I -/
theorem rX2_nextTo_0 {l : Launch} {G : jG} {X : jX} {Q : State → Prop} {n hg nc : Nat} {ret : Option FieldType} {mu : jM} {x1 : Int32} (h : jOk l G X cX2_nextTo 4 ret RX2 hg nc)
    (k1 : J l G X Q 4 4 [.ref 6, .int x1, .int 0, .int 0] [] mu n) :
    J l G X Q 4 0 [.ref 6, .int x1, .float 0, .float 0] [] mu n := by
  refine J_iconst h dX2_nextTo_0 ci_0 ?_
  refine J_istore_n h dX2_nextTo_1 rfl (by decide) rfl ?_
  show J l G X Q 4 2 [.ref 6, .int x1, .int 0, .float 0] [] mu n
  refine J_iconst h dX2_nextTo_2 ci_0 ?_
  refine J_istore_n h dX2_nextTo_3 rfl (by decide) rfl ?_
  show J l G X Q 4 4 [.ref 6, .int x1, .int 0, .int 0] [] mu n
  exact k1
theorem rX2_nextTo_4 {l : Launch} {G : jG} {X : jX} {Q : State → Prop} {n hg nc : Nat} {ret : Option FieldType} {mu : jM} {x1 : Int32} {x2 : Int32} {x3 : Int32} (h : jOk l G X cX2_nextTo 4 ret RX2 hg nc) (s5 : ¬ (mu 6 0) ≤ x3 → ¬ ((x1 >>> (x3 &&& 31)) &&& 1) = 0 → vp_in x3 24)
    (k2 : (mu 6 0) ≤ x3 → J l G X Q 4 40 [.ref 6, .int x1, .int x2, .int x3] [.int (x2 &&& (x1 ^^^ (-1)))] mu n)
    (k4 : ¬ (mu 6 0) ≤ x3 → ((x1 >>> (x3 &&& 31)) &&& 1) = 0 → J l G X Q 4 29 [.ref 6, .int x1, .int x2, .int x3] [] mu n)
    (k6 : ¬ (mu 6 0) ≤ x3 → ¬ ((x1 >>> (x3 &&& 31)) &&& 1) = 0 → J l G X Q 4 29 [.ref 6, .int x1, .int (x2 ||| (mu 10 (x3).toNatClampNeg)), .int x3] [] mu n) :
    J l G X Q 4 4 [.ref 6, .int x1, .int x2, .int x3] [] mu n := by
  refine J_iload_n h dX2_nextTo_4 rfl rfl ?_
  refine J_aload_n h dX2_nextTo_5 rfl rfl ?_
  refine J_geti (k := 0) h dX2_nextTo_6 jc2 rfl rfl (by decide) w140 ?_
  refine J_icmp_ge (tgt := 35) h dX2_nextTo_9 (by decide) (fun q1 => ?_) (fun q1 => ?_)
  · skip
    refine J_iload_n h dX2_nextTo_35 rfl rfl ?_
    refine J_iload_n h dX2_nextTo_36 rfl rfl ?_
    refine J_iconst h dX2_nextTo_37 ci_m1 ?_
    refine J_ixor h dX2_nextTo_38 ?_
    refine J_iand h dX2_nextTo_39 ?_
    exact k2 q1
  · skip
    refine J_iload_n h dX2_nextTo_12 rfl rfl ?_
    refine J_iload_n h dX2_nextTo_13 rfl rfl ?_
    refine J_ishr h dX2_nextTo_14 ?_
    refine J_iconst h dX2_nextTo_15 ci_1 ?_
    refine J_iand h dX2_nextTo_16 ?_
    refine J_if_eq (tgt := 29) h dX2_nextTo_17 (by decide) (fun q3 => ?_) (fun q3 => ?_)
    · skip
      exact k4 q1 q3
    · skip
      refine J_iload_n h dX2_nextTo_20 rfl rfl ?_
      refine J_aload_n h dX2_nextTo_21 rfl rfl ?_
      refine J_getr (k := 5) h dX2_nextTo_22 jc2 rfl rfl (by decide) w155 ?_
      refine J_iload_n h dX2_nextTo_25 rfl rfl ?_
      refine J_iald h dX2_nextTo_26 rfl (s5 q1 q3) ?_
      refine J_ior h dX2_nextTo_27 ?_
      refine J_istore_n h dX2_nextTo_28 rfl (by decide) rfl ?_
      show J l G X Q 4 29 [.ref 6, .int x1, .int (x2 ||| (mu 10 (x3).toNatClampNeg)), .int x3] [] mu n
      exact k6 q1 q3
theorem rX2_nextTo_29 {l : Launch} {G : jG} {X : jX} {Q : State → Prop} {n hg nc : Nat} {ret : Option FieldType} {mu : jM} {x1 : Int32} {x2 : Int32} {x3 : Int32} (h : jOk l G X cX2_nextTo 4 ret RX2 hg nc)
    (k1 : J l G X Q 4 4 [.ref 6, .int x1, .int x2, .int (x3 + 1)] [] mu n) :
    J l G X Q 4 29 [.ref 6, .int x1, .int x2, .int x3] [] mu n := by
  refine J_iinc h dX2_nextTo_29 rfl (cc_1 _) (by decide) rfl ?_
  show J l G X Q 4 32 [.ref 6, .int x1, .int x2, .int (x3 + 1)] [] mu n
  refine J_goto (tgt := 4) h dX2_nextTo_32 (by decide) ?_
  exact k1
/-! LockstepNet$Net.allNodes()I -/
theorem rX2_allNodes_0 {l : Launch} {G : jG} {X : jX} {Q : State → Prop} {n hg nc : Nat} {ret : Option FieldType} {mu : jM} (h : jOk l G X cX2_allNodes 1 ret RX2 hg nc)
    (k1 : J l G X Q 1 8 [.ref 6] [.int ((1 <<< ((mu 6 0) &&& 31)) - 1)] mu n) :
    J l G X Q 1 0 [.ref 6] [] mu n := by
  refine J_iconst h dX2_allNodes_0 ci_1 ?_
  refine J_aload_n h dX2_allNodes_1 rfl rfl ?_
  refine J_geti (k := 0) h dX2_allNodes_2 jc2 rfl rfl (by decide) w140 ?_
  refine J_ishl h dX2_allNodes_5 ?_
  refine J_iconst h dX2_allNodes_6 ci_1 ?_
  refine J_isub h dX2_allNodes_7 ?_
  exact k1
/-! LockstepNet$Net.isConnected()Z -/
theorem rX2_isConnected_0 {l : Launch} {G : jG} {X : jX} {Q : State → Prop} {n hg nc : Nat} {ret : Option FieldType} {mu : jM} (h : jOk l G X cX2_isConnected 3 ret RX2 hg nc)
    (k1 : J l G X Q 3 4 [.ref 6, .int 1, .int 1] [] mu n) :
    J l G X Q 3 0 [.ref 6, .float 0, .float 0] [] mu n := by
  refine J_iconst h dX2_isConnected_0 ci_1 ?_
  refine J_istore_n h dX2_isConnected_1 rfl (by decide) rfl ?_
  show J l G X Q 3 2 [.ref 6, .int 1, .float 0] [] mu n
  refine J_iconst h dX2_isConnected_2 ci_1 ?_
  refine J_istore_n h dX2_isConnected_3 rfl (by decide) rfl ?_
  show J l G X Q 3 4 [.ref 6, .int 1, .int 1] [] mu n
  exact k1
theorem rX2_isConnected_4 {l : Launch} {G : jG} {X : jX} {Q : State → Prop} {n hg nc : Nat} {ret : Option FieldType} {mu : jM} {x1 : Int32} {x2 : Int32} (h : jOk l G X cX2_isConnected 3 ret RX2 hg nc)
    (k3 : (mu 6 0) ≤ x2 → (mu 6 0) ≤ 0 → J l G X Q 3 45 [.ref 6, .int x1, .int x2] [] mu n)
    (k4 : (mu 6 0) ≤ x2 → ¬ (mu 6 0) ≤ 0 → J l G X Q 3 35 [.ref 6, .int x1, .int x2] [.ref 6, .int x1] mu n)
    (k5 : ¬ (mu 6 0) ≤ x2 → J l G X Q 3 15 [.ref 6, .int x1, .int x2] [.int x1, .ref 6, .int x1] mu n) :
    J l G X Q 3 4 [.ref 6, .int x1, .int x2] [] mu n := by
  refine J_iload_n h dX2_isConnected_4 rfl rfl ?_
  refine J_aload_n h dX2_isConnected_5 rfl rfl ?_
  refine J_geti (k := 0) h dX2_isConnected_6 jc2 rfl rfl (by decide) w140 ?_
  refine J_icmp_ge (tgt := 26) h dX2_isConnected_9 (by decide) (fun q1 => ?_) (fun q1 => ?_)
  · skip
    refine J_aload_n h dX2_isConnected_26 rfl rfl ?_
    refine J_geti (k := 0) h dX2_isConnected_27 jc2 rfl rfl (by decide) w140 ?_
    refine J_if_le (tgt := 45) h dX2_isConnected_30 (by decide) (fun q2 => ?_) (fun q2 => ?_)
    · skip
      exact k3 q1 q2
    · skip
      refine J_iload_n h dX2_isConnected_33 rfl rfl ?_
      refine J_aload_n h dX2_isConnected_34 rfl rfl ?_
      exact k4 q1 q2
  · skip
    refine J_iload_n h dX2_isConnected_12 rfl rfl ?_
    refine J_aload_n h dX2_isConnected_13 rfl rfl ?_
    refine J_iload_n h dX2_isConnected_14 rfl rfl ?_
    exact k5 q1
theorem rX2_isConnected_45 {l : Launch} {G : jG} {X : jX} {Q : State → Prop} {n hg nc : Nat} {ret : Option FieldType} {mu : jM} {x1 : Int32} {x2 : Int32} (h : jOk l G X cX2_isConnected 3 ret RX2 hg nc)
    (k1 : J l G X Q 3 46 [.ref 6, .int x1, .int x2] [.int 0] mu n) :
    J l G X Q 3 45 [.ref 6, .int x1, .int x2] [] mu n := by
  refine J_iconst h dX2_isConnected_45 ci_0 ?_
  exact k1
theorem rX2_isConnected_35 {l : Launch} {G : jG} {X : jX} {Q : State → Prop} {n hg nc : Nat} {ret : Option FieldType} {mu : jM} {x1 : Int32} {x2 : Int32} {y1 : Int32} {Qc : Int32 → jM → Prop} {h' : Nat} (h : jOk l G X cX2_isConnected 3 ret RX2 hg nc) (hM : jCi l G yX2_allNodes cX2_allNodes 1 h' (some .int) (.ref 6 :: []) mu Qc) (hh : h' < hg ∧ 1 ≤ 21) (hn : n ≤ nc)
    (kk : ∀ v mu', Qc v mu' → J l G X Q 3 38 [.ref 6, .int x1, .int x2] (.int v :: [.int y1]) mu' n) :
    J l G X Q 3 35 [.ref 6, .int x1, .int x2] [.ref 6, .int y1] mu n :=
  J_callVi (As := []) (rest := [.int y1]) h dX2_isConnected_35 hM (jgV w736 w737 w738 w78 w739) rfl (ci := 2) rfl rfl nmX2_allNodes rfl hh (Nat.le_of_ble_eq_true rfl) rfl kk hn
theorem rX2_isConnected_15 {l : Launch} {G : jG} {X : jX} {Q : State → Prop} {n hg nc : Nat} {ret : Option FieldType} {mu : jM} {x1 : Int32} {x2 : Int32} {y0 : Int32} {y2 : Int32} {Qc : Int32 → jM → Prop} {h' : Nat} (h : jOk l G X cX2_isConnected 3 ret RX2 hg nc) (hM : jCi l G yX2_nextTo cX2_nextTo 4 h' (some .int) (.ref 6 :: [.int y0]) mu Qc) (hh : h' < hg ∧ 4 ≤ 21) (hn : n ≤ nc)
    (kk : ∀ v mu', Qc v mu' → J l G X Q 3 18 [.ref 6, .int x1, .int x2] (.int v :: [.int y2]) mu' n) :
    J l G X Q 3 15 [.ref 6, .int x1, .int x2] [.int y0, .ref 6, .int y2] mu n :=
  J_callVi (As := [.int y0]) (rest := [.int y2]) h dX2_isConnected_15 hM (jgV w732 w733 w734 w78 w735) rfl (ci := 2) rfl rfl nmX2_nextTo rfl hh (Nat.le_of_ble_eq_true rfl) rfl kk hn
theorem rX2_isConnected_38 {l : Launch} {G : jG} {X : jX} {Q : State → Prop} {n hg nc : Nat} {ret : Option FieldType} {mu : jM} {x1 : Int32} {x2 : Int32} {y0 : Int32} {y1 : Int32} (h : jOk l G X cX2_isConnected 3 ret RX2 hg nc)
    (k2 : ¬ y1 = y0 → J l G X Q 3 45 [.ref 6, .int x1, .int x2] [] mu n)
    (k3 : y1 = y0 → J l G X Q 3 46 [.ref 6, .int x1, .int x2] [.int 1] mu n) :
    J l G X Q 3 38 [.ref 6, .int x1, .int x2] [.int y0, .int y1] mu n := by
  refine J_icmp_ne (tgt := 45) h dX2_isConnected_38 (by decide) (fun q1 => ?_) (fun q1 => ?_)
  · skip
    exact k2 q1
  · skip
    refine J_iconst h dX2_isConnected_41 ci_1 ?_
    refine J_goto (tgt := 46) h dX2_isConnected_42 (by decide) ?_
    exact k3 q1
theorem rX2_isConnected_18 {l : Launch} {G : jG} {X : jX} {Q : State → Prop} {n hg nc : Nat} {ret : Option FieldType} {mu : jM} {x1 : Int32} {x2 : Int32} {y0 : Int32} {y1 : Int32} (h : jOk l G X cX2_isConnected 3 ret RX2 hg nc)
    (k1 : J l G X Q 3 4 [.ref 6, .int (y1 ||| y0), .int (x2 + 1)] [] mu n) :
    J l G X Q 3 18 [.ref 6, .int x1, .int x2] [.int y0, .int y1] mu n := by
  refine J_ior h dX2_isConnected_18 ?_
  refine J_istore_n h dX2_isConnected_19 rfl (by decide) rfl ?_
  show J l G X Q 3 20 [.ref 6, .int (y1 ||| y0), .int x2] [] mu n
  refine J_iinc h dX2_isConnected_20 rfl (cc_1 _) (by decide) rfl ?_
  show J l G X Q 3 23 [.ref 6, .int (y1 ||| y0), .int (x2 + 1)] [] mu n
  refine J_goto (tgt := 4) h dX2_isConnected_23 (by decide) ?_
  exact k1
