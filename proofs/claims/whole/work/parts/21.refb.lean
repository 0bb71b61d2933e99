/-! LockstepNetModel.wrongWord()I -/
theorem rX8_wrongWord_0 {l : Launch} {G : jG} {X : jX} {Q : State → Prop} {n hg nc : Nat} {ret : Option FieldType} {mu : jM} (h : jOk l G X cX8_wrongWord 2 ret RX8 hg nc)
    (k1 : J l G X Q 2 2 [.ref 58, .int 0] [] mu n) :
    J l G X Q 2 0 [.ref 58, .float 0] [] mu n := by
  refine J_iconst h dX8_wrongWord_0 ci_0 ?_
  refine J_istore_n h dX8_wrongWord_1 rfl (by decide) rfl ?_
  show J l G X Q 2 2 [.ref 58, .int 0] [] mu n
  exact k1
theorem rX8_wrongWord_2 {l : Launch} {G : jG} {X : jX} {Q : State → Prop} {n hg nc : Nat} {ret : Option FieldType} {mu : jM} {x1 : Int32} (h : jOk l G X cX8_wrongWord 2 ret RX8 hg nc)
    (k2 : (mu 58 9) ≤ x1 → J l G X Q 2 24 [.ref 58, .int x1] [] mu n)
    (k3 : ¬ (mu 58 9) ≤ x1 → J l G X Q 2 12 [.ref 58, .int x1] [.int x1, .ref 58] mu n) :
    J l G X Q 2 2 [.ref 58, .int x1] [] mu n := by
  refine J_iload_n h dX8_wrongWord_2 rfl rfl ?_
  refine J_aload_n h dX8_wrongWord_3 rfl rfl ?_
  refine J_geti (k := 9) h dX8_wrongWord_4 jc8 rfl rfl (by decide) w993 ?_
  refine J_icmp_ge (tgt := 24) h dX8_wrongWord_7 (by decide) (fun q1 => ?_) (fun q1 => ?_)
  · skip
    exact k2 q1
  · skip
    refine J_aload_n h dX8_wrongWord_10 rfl rfl ?_
    refine J_iload_n h dX8_wrongWord_11 rfl rfl ?_
    exact k3 q1
theorem rX8_wrongWord_24 {l : Launch} {G : jG} {X : jX} {Q : State → Prop} {n hg nc : Nat} {ret : Option FieldType} {mu : jM} {x1 : Int32} (h : jOk l G X cX8_wrongWord 2 ret RX8 hg nc)
    (k2 : (mu 58 9) ≤ x1 → J l G X Q 2 37 [.ref 58, .int x1] [.int (-1)] mu n)
    (k3 : ¬ (mu 58 9) ≤ x1 → J l G X Q 2 37 [.ref 58, .int x1] [.int x1] mu n) :
    J l G X Q 2 24 [.ref 58, .int x1] [] mu n := by
  refine J_iload_n h dX8_wrongWord_24 rfl rfl ?_
  refine J_aload_n h dX8_wrongWord_25 rfl rfl ?_
  refine J_geti (k := 9) h dX8_wrongWord_26 jc8 rfl rfl (by decide) w993 ?_
  refine J_icmp_ge (tgt := 36) h dX8_wrongWord_29 (by decide) (fun q1 => ?_) (fun q1 => ?_)
  · skip
    refine J_iconst h dX8_wrongWord_36 ci_m1 ?_
    exact k2 q1
  · skip
    refine J_iload_n h dX8_wrongWord_32 rfl rfl ?_
    refine J_goto (tgt := 37) h dX8_wrongWord_33 (by decide) ?_
    exact k3 q1
theorem rX8_wrongWord_12 {l : Launch} {G : jG} {X : jX} {Q : State → Prop} {n hg nc : Nat} {ret : Option FieldType} {mu : jM} {x1 : Int32} {y0 : Int32} {Qc : Int32 → jM → Prop} {h' : Nat} (h : jOk l G X cX8_wrongWord 2 ret RX8 hg nc) (hM : jCi l G yX8_isWrong cX8_isWrong 7 h' (some .boolean) (.ref 58 :: [.int y0]) mu Qc) (hh : h' < hg ∧ 7 ≤ 21) (hn : n ≤ nc)
    (kk : ∀ v mu', Qc v mu' → J l G X Q 2 15 [.ref 58, .int x1] (.int v :: []) mu' n) :
    J l G X Q 2 12 [.ref 58, .int x1] [.int y0, .ref 58] mu n :=
  J_callVi (As := [.int y0]) (rest := []) h dX8_wrongWord_12 hM (jgV w1190 w1192 w42 w84 w1193) rfl (ci := 8) rfl rfl nmX8_isWrong rfl hh (Nat.le_of_ble_eq_true rfl) rfl kk hn
theorem rX8_wrongWord_15 {l : Launch} {G : jG} {X : jX} {Q : State → Prop} {n hg nc : Nat} {ret : Option FieldType} {mu : jM} {x1 : Int32} {y0 : Int32} (h : jOk l G X cX8_wrongWord 2 ret RX8 hg nc)
    (k2 : ¬ y0 = 0 → J l G X Q 2 24 [.ref 58, .int x1] [] mu n)
    (k3 : y0 = 0 → J l G X Q 2 2 [.ref 58, .int (x1 + 1)] [] mu n) :
    J l G X Q 2 15 [.ref 58, .int x1] [.int y0] mu n := by
  refine J_if_ne (tgt := 24) h dX8_wrongWord_15 (by decide) (fun q1 => ?_) (fun q1 => ?_)
  · skip
    exact k2 q1
  · skip
    refine J_iinc h dX8_wrongWord_18 rfl (cc_1 _) (by decide) rfl ?_
    show J l G X Q 2 21 [.ref 58, .int (x1 + 1)] [] mu n
    refine J_goto (tgt := 2) h dX8_wrongWord_21 (by decide) ?_
    exact k3 q1
/-! LockstepNetModel.check()I -/
theorem rX8_check_0 {l : Launch} {G : jG} {X : jX} {Q : State → Prop} {n hg nc : Nat} {ret : Option FieldType} {mu : jM} (h : jOk l G X cX8_check 1 ret RX8 hg nc)
    (k1 : J l G X Q 1 6 [.ref 58] [.ref 58] (wr mu 58 0 0) n) :
    J l G X Q 1 0 [.ref 58] [] mu n := by
  refine J_aload_n h dX8_check_0 rfl rfl ?_
  refine J_iconst h dX8_check_1 ci_0 ?_
  refine J_puti (k := 0) (ty0 := tyX8) h dX8_check_2 jc8 tyX8_ok nmX8 rfl rfl (by decide) rfl rfl rfl w984 ?_
  refine J_aload_n h dX8_check_5 rfl rfl ?_
  exact k1
theorem rX8_check_6 {l : Launch} {G : jG} {X : jX} {Q : State → Prop} {n hg nc : Nat} {ret : Option FieldType} {mu : jM} {Qc : Int32 → jM → Prop} {h' : Nat} (h : jOk l G X cX8_check 1 ret RX8 hg nc) (hM : jCi l G yX8_wrongWord cX8_wrongWord 2 h' (some .int) (.ref 58 :: []) mu Qc) (hh : h' < hg ∧ 2 ≤ 21) (hn : n ≤ nc)
    (kk : ∀ v mu', Qc v mu' → J l G X Q 1 9 [.ref 58] (.int v :: []) mu' n) :
    J l G X Q 1 6 [.ref 58] [.ref 58] mu n :=
  J_callVi (As := []) (rest := []) h dX8_check_6 hM (jgV w1186 w1188 w41 w84 w1189) rfl (ci := 8) rfl rfl nmX8_wrongWord rfl hh (Nat.le_of_ble_eq_true rfl) rfl kk hn
/-! LockstepNetModel.input(III)V -/
theorem rX8_input_0 {l : Launch} {G : jG} {X : jX} {Q : State → Prop} {n hg nc : Nat} {ret : Option FieldType} {mu : jM} {x1 : Int32} {x2 : Int32} {x3 : Int32} (h : jOk l G X cX8_input 4 ret RX8 hg nc)
    (k1 : J l G X Q 4 3 [.ref 58, .int x1, .int x2, .int x3] [.int x1, .ref 58, .ref 58] mu n) :
    J l G X Q 4 0 [.ref 58, .int x1, .int x2, .int x3] [] mu n := by
  refine J_aload_n h dX8_input_0 rfl rfl ?_
  refine J_aload_n h dX8_input_1 rfl rfl ?_
  refine J_iload_n h dX8_input_2 rfl rfl ?_
  exact k1
theorem rX8_input_3 {l : Launch} {G : jG} {X : jX} {Q : State → Prop} {n hg nc : Nat} {ret : Option FieldType} {mu : jM} {x1 : Int32} {x2 : Int32} {x3 : Int32} {y0 : Int32} {Qc : Int32 → jM → Prop} {h' : Nat} (h : jOk l G X cX8_input 4 ret RX8 hg nc) (hM : jCi l G yX8_isNode cX8_isNode 2 h' (some .boolean) (.ref 58 :: [.int y0]) mu Qc) (hh : h' < hg ∧ 2 ≤ 21) (hn : n ≤ nc)
    (kk : ∀ v mu', Qc v mu' → J l G X Q 4 6 [.ref 58, .int x1, .int x2, .int x3] (.int v :: [.ref 58]) mu' n) :
    J l G X Q 4 3 [.ref 58, .int x1, .int x2, .int x3] [.int y0, .ref 58, .ref 58] mu n :=
  J_callVi (As := [.int y0]) (rest := [.ref 58]) h dX8_input_3 hM (jgV w1130 w1132 w31 w84 w1133) rfl (ci := 8) rfl rfl nmX8_isNode rfl hh (Nat.le_of_ble_eq_true rfl) rfl kk hn
theorem rX8_input_6 {l : Launch} {G : jG} {X : jX} {Q : State → Prop} {n hg nc : Nat} {ret : Option FieldType} {mu : jM} {x1 : Int32} {x2 : Int32} {x3 : Int32} {y0 : Int32} (h : jOk l G X cX8_input 4 ret RX8 hg nc)
    (k2 : ¬ y0 = 0 → J l G X Q 4 14 [.ref 58, .int x1, .int x2, .int x3] [.int x2, .ref 58] mu n)
    (k4 : y0 = 0 → J l G X Q 4 58 [.ref 58, .int x1, .int x2, .int x3] [] (wr mu 58 0 1) n) :
    J l G X Q 4 6 [.ref 58, .int x1, .int x2, .int x3] [.int y0, .ref 58] mu n := by
  refine J_if_ne (tgt := 13) h dX8_input_6 (by decide) (fun q1 => ?_) (fun q1 => ?_)
  · skip
    refine J_iload_n h dX8_input_13 rfl rfl ?_
    exact k2 q1
  · skip
    refine J_iconst h dX8_input_9 ci_1 ?_
    refine J_goto (tgt := 36) h dX8_input_10 (by decide) ?_
    refine J_puti (k := 0) (ty0 := tyX8) h dX8_input_36 jc8 tyX8_ok nmX8 rfl rfl (by decide) rfl rfl rfl w984 ?_
    refine J_aload_n h dX8_input_39 rfl rfl ?_
    refine J_geti (k := 0) h dX8_input_40 jc8 rfl rfl (by decide) w984 ?_
    refine J_if_ne (tgt := 58) h dX8_input_43 (by decide) (fun q3 => ?_) (fun q3 => ?_)
    · skip
      exact k4 q1
    · skip
      exact absurd (show (1 : Int32) = (0 : Int32) from q3) (by decide)
theorem rX8_input_14 {l : Launch} {G : jG} {X : jX} {Q : State → Prop} {n hg nc : Nat} {ret : Option FieldType} {mu : jM} {x1 : Int32} {x2 : Int32} {x3 : Int32} {y0 : Int32} {Qc : Int32 → jM → Prop} {h' : Nat} (h : jOk l G X cX8_input 4 ret RX8 hg nc) (hM : jCi l G yX8_isRegister cX8_isRegister 1 h' (some .boolean) [.int y0] mu Qc) (hh : h' < hg ∧ 1 ≤ 21) (hn : n ≤ nc)
    (kk : ∀ v mu', Qc v mu' → J l G X Q 4 17 [.ref 58, .int x1, .int x2, .int x3] (.int v :: [.ref 58]) mu' n) :
    J l G X Q 4 14 [.ref 58, .int x1, .int x2, .int x3] [.int y0, .ref 58] mu n :=
  J_callSi (As := [.int y0]) (rest := [.ref 58]) h dX8_input_14 hM (jgS w1198 w1199 w84 w1200) nmX8_isRegister rfl hh (Nat.le_of_ble_eq_true rfl) rfl kk hn
theorem rX8_input_17 {l : Launch} {G : jG} {X : jX} {Q : State → Prop} {n hg nc : Nat} {ret : Option FieldType} {mu : jM} {x1 : Int32} {x2 : Int32} {x3 : Int32} {y0 : Int32} (h : jOk l G X cX8_input 4 ret RX8 hg nc) (s4 : ¬ y0 = 0 → (mu 58 18) = 0 → vp_in ((8 * x1) + x2) 192)
    (k5 : ¬ y0 = 0 → (mu 58 18) = 0 → J l G X Q 4 58 [.ref 58, .int x1, .int x2, .int x3] [] (wr (wr mu 58 0 0) 63 (((8 * x1) + x2)).toNatClampNeg x3) n)
    (k7 : ¬ y0 = 0 → ¬ (mu 58 18) = 0 → J l G X Q 4 58 [.ref 58, .int x1, .int x2, .int x3] [] (wr mu 58 0 3) n)
    (k9 : y0 = 0 → J l G X Q 4 58 [.ref 58, .int x1, .int x2, .int x3] [] (wr mu 58 0 2) n) :
    J l G X Q 4 17 [.ref 58, .int x1, .int x2, .int x3] [.int y0, .ref 58] mu n := by
  refine J_if_ne (tgt := 24) h dX8_input_17 (by decide) (fun q1 => ?_) (fun q1 => ?_)
  · skip
    refine J_aload_n h dX8_input_24 rfl rfl ?_
    refine J_geti (k := 18) h dX8_input_25 jc8 rfl rfl (by decide) w1002 ?_
    refine J_if_eq (tgt := 35) h dX8_input_28 (by decide) (fun q2 => ?_) (fun q2 => ?_)
    · skip
      refine J_iconst h dX8_input_35 ci_0 ?_
      refine J_puti (k := 0) (ty0 := tyX8) h dX8_input_36 jc8 tyX8_ok nmX8 rfl rfl (by decide) rfl rfl rfl w984 ?_
      refine J_aload_n h dX8_input_39 rfl rfl ?_
      refine J_geti (k := 0) h dX8_input_40 jc8 rfl rfl (by decide) w984 ?_
      refine J_if_ne (tgt := 58) h dX8_input_43 (by decide) (fun q3 => ?_) (fun q3 => ?_)
      · skip
        exact absurd (show ¬ (0 : Int32) = (0 : Int32) from q3) (by decide)
      · skip
        refine J_aload_n h dX8_input_46 rfl rfl ?_
        refine J_getr (k := 7) h dX8_input_47 jc8 rfl rfl (by decide) w991 ?_
        refine J_bipush h dX8_input_50 cb_8 ?_
        refine J_iload_n h dX8_input_52 rfl rfl ?_
        refine J_imul h dX8_input_53 ?_
        refine J_iload_n h dX8_input_54 rfl rfl ?_
        refine J_iadd h dX8_input_55 ?_
        refine J_iload_n h dX8_input_56 rfl rfl ?_
        refine J_iast h dX8_input_57 rfl (s4 q1 q2) ?_
        exact k5 q1 q2
    · skip
      refine J_iconst h dX8_input_31 ci_3 ?_
      refine J_goto (tgt := 36) h dX8_input_32 (by decide) ?_
      refine J_puti (k := 0) (ty0 := tyX8) h dX8_input_36 jc8 tyX8_ok nmX8 rfl rfl (by decide) rfl rfl rfl w984 ?_
      refine J_aload_n h dX8_input_39 rfl rfl ?_
      refine J_geti (k := 0) h dX8_input_40 jc8 rfl rfl (by decide) w984 ?_
      refine J_if_ne (tgt := 58) h dX8_input_43 (by decide) (fun q6 => ?_) (fun q6 => ?_)
      · skip
        exact k7 q1 q2
      · skip
        exact absurd (show (3 : Int32) = (0 : Int32) from q6) (by decide)
  · skip
    refine J_iconst h dX8_input_20 ci_2 ?_
    refine J_goto (tgt := 36) h dX8_input_21 (by decide) ?_
    refine J_puti (k := 0) (ty0 := tyX8) h dX8_input_36 jc8 tyX8_ok nmX8 rfl rfl (by decide) rfl rfl rfl w984 ?_
    refine J_aload_n h dX8_input_39 rfl rfl ?_
    refine J_geti (k := 0) h dX8_input_40 jc8 rfl rfl (by decide) w984 ?_
    refine J_if_ne (tgt := 58) h dX8_input_43 (by decide) (fun q8 => ?_) (fun q8 => ?_)
    · skip
      exact k9 q1
    · skip
      exact absurd (show (2 : Int32) = (0 : Int32) from q8) (by decide)
/-! LockstepNetModel.lowestZero(I)I -/
theorem rX8_lowestZero_0 {l : Launch} {G : jG} {X : jX} {Q : State → Prop} {n hg nc : Nat} {ret : Option FieldType} {mu : jM} {x0 : Int32} (h : jOk l G X cX8_lowestZero 2 ret RX8 hg nc)
    (k1 : J l G X Q 2 2 [.int x0, .int 0] [] mu n) :
    J l G X Q 2 0 [.int x0, .float 0] [] mu n := by
  refine J_iconst h dX8_lowestZero_0 ci_0 ?_
  refine J_istore_n h dX8_lowestZero_1 rfl (by decide) rfl ?_
  show J l G X Q 2 2 [.int x0, .int 0] [] mu n
  exact k1
theorem rX8_lowestZero_2 {l : Launch} {G : jG} {X : jX} {Q : State → Prop} {n hg nc : Nat} {ret : Option FieldType} {mu : jM} {x0 : Int32} {x1 : Int32} (h : jOk l G X cX8_lowestZero 2 ret RX8 hg nc)
    (k2 : 32 ≤ x1 → J l G X Q 2 23 [.int x0, .int x1] [] mu n)
    (k4 : ¬ 32 ≤ x1 → ¬ ((x0 >>> (x1 &&& 31)) &&& 1) = 1 → J l G X Q 2 23 [.int x0, .int x1] [] mu n)
    (k5 : ¬ 32 ≤ x1 → ((x0 >>> (x1 &&& 31)) &&& 1) = 1 → J l G X Q 2 2 [.int x0, .int (x1 + 1)] [] mu n) :
    J l G X Q 2 2 [.int x0, .int x1] [] mu n := by
  refine J_iload_n h dX8_lowestZero_2 rfl rfl ?_
  refine J_bipush h dX8_lowestZero_3 cb_32 ?_
  refine J_icmp_ge (tgt := 23) h dX8_lowestZero_5 (by decide) (fun q1 => ?_) (fun q1 => ?_)
  · skip
    exact k2 q1
  · skip
    refine J_iload_n h dX8_lowestZero_8 rfl rfl ?_
    refine J_iload_n h dX8_lowestZero_9 rfl rfl ?_
    refine J_ishr h dX8_lowestZero_10 ?_
    refine J_iconst h dX8_lowestZero_11 ci_1 ?_
    refine J_iand h dX8_lowestZero_12 ?_
    refine J_iconst h dX8_lowestZero_13 ci_1 ?_
    refine J_icmp_ne (tgt := 23) h dX8_lowestZero_14 (by decide) (fun q3 => ?_) (fun q3 => ?_)
    · skip
      exact k4 q1 q3
    · skip
      refine J_iinc h dX8_lowestZero_17 rfl (cc_1 _) (by decide) rfl ?_
      show J l G X Q 2 20 [.int x0, .int (x1 + 1)] [] mu n
      refine J_goto (tgt := 2) h dX8_lowestZero_20 (by decide) ?_
      exact k5 q1 q3
theorem rX8_lowestZero_23 {l : Launch} {G : jG} {X : jX} {Q : State → Prop} {n hg nc : Nat} {ret : Option FieldType} {mu : jM} {x0 : Int32} {x1 : Int32} (h : jOk l G X cX8_lowestZero 2 ret RX8 hg nc)
    (k1 : J l G X Q 2 24 [.int x0, .int x1] [.int x1] mu n) :
    J l G X Q 2 23 [.int x0, .int x1] [] mu n := by
  refine J_iload_n h dX8_lowestZero_23 rfl rfl ?_
  exact k1
/-! LockstepNetModel.make(III)I -/
theorem rX8_make_0 {l : Launch} {G : jG} {X : jX} {Q : State → Prop} {n hg nc : Nat} {ret : Option FieldType} {mu : jM} {x0 : Int32} {x1 : Int32} {x2 : Int32} (h : jOk l G X cX8_make 3 ret RX8 hg nc)
    (k10 : ¬ x0 = 2 → ¬ x0 = 3 → ¬ x0 = 4 → ¬ x0 = 5 → ¬ x0 = 6 → ¬ x0 = 7 → ¬ x0 = 8 → ¬ x0 = 9 → ¬ x0 = 10 → J l G X Q 3 121 [.int x0, .int x1, .int x2] [.int (x1 ^^^ x2)] mu n)
    (k11 : ¬ x0 = 2 → ¬ x0 = 3 → ¬ x0 = 4 → ¬ x0 = 5 → ¬ x0 = 6 → ¬ x0 = 7 → ¬ x0 = 8 → ¬ x0 = 9 → x0 = 10 → J l G X Q 3 121 [.int x0, .int x1, .int x2] [.int (x1 ||| x2)] mu n)
    (k12 : ¬ x0 = 2 → ¬ x0 = 3 → ¬ x0 = 4 → ¬ x0 = 5 → ¬ x0 = 6 → ¬ x0 = 7 → ¬ x0 = 8 → x0 = 9 → J l G X Q 3 121 [.int x0, .int x1, .int x2] [.int (x1 &&& x2)] mu n)
    (k14 : ¬ x0 = 2 → ¬ x0 = 3 → ¬ x0 = 4 → ¬ x0 = 5 → ¬ x0 = 6 → ¬ x0 = 7 → x0 = 8 → ¬ x1 = x2 → J l G X Q 3 93 [.int x0, .int x1, .int x2] [.int 0] mu n)
    (k15 : ¬ x0 = 2 → ¬ x0 = 3 → ¬ x0 = 4 → ¬ x0 = 5 → ¬ x0 = 6 → ¬ x0 = 7 → x0 = 8 → x1 = x2 → J l G X Q 3 93 [.int x0, .int x1, .int x2] [.int 1] mu n)
    (k17 : ¬ x0 = 2 → ¬ x0 = 3 → ¬ x0 = 4 → ¬ x0 = 5 → ¬ x0 = 6 → x0 = 7 → x2 ≤ x1 → J l G X Q 3 76 [.int x0, .int x1, .int x2] [.int 0] mu n)
    (k18 : ¬ x0 = 2 → ¬ x0 = 3 → ¬ x0 = 4 → ¬ x0 = 5 → ¬ x0 = 6 → x0 = 7 → ¬ x2 ≤ x1 → J l G X Q 3 76 [.int x0, .int x1, .int x2] [.int 1] mu n)
    (k20 : ¬ x0 = 2 → ¬ x0 = 3 → ¬ x0 = 4 → ¬ x0 = 5 → x0 = 6 → x1 ≤ x2 → J l G X Q 3 59 [.int x0, .int x1, .int x2] [.int x2] mu n)
    (k21 : ¬ x0 = 2 → ¬ x0 = 3 → ¬ x0 = 4 → ¬ x0 = 5 → x0 = 6 → ¬ x1 ≤ x2 → J l G X Q 3 59 [.int x0, .int x1, .int x2] [.int x1] mu n)
    (k23 : ¬ x0 = 2 → ¬ x0 = 3 → ¬ x0 = 4 → x0 = 5 → x2 ≤ x1 → J l G X Q 3 42 [.int x0, .int x1, .int x2] [.int x2] mu n)
    (k24 : ¬ x0 = 2 → ¬ x0 = 3 → ¬ x0 = 4 → x0 = 5 → ¬ x2 ≤ x1 → J l G X Q 3 42 [.int x0, .int x1, .int x2] [.int x1] mu n)
    (k25 : ¬ x0 = 2 → ¬ x0 = 3 → x0 = 4 → J l G X Q 3 26 [.int x0, .int x1, .int x2] [.int (x1 * x2)] mu n)
    (k26 : ¬ x0 = 2 → x0 = 3 → J l G X Q 3 17 [.int x0, .int x1, .int x2] [.int (x1 - x2)] mu n)
    (k27 : x0 = 2 → J l G X Q 3 8 [.int x0, .int x1, .int x2] [.int (x1 + x2)] mu n) :
    J l G X Q 3 0 [.int x0, .int x1, .int x2] [] mu n := by
  refine J_iload_n h dX8_make_0 rfl rfl ?_
  refine J_iconst h dX8_make_1 ci_2 ?_
  refine J_icmp_ne (tgt := 9) h dX8_make_2 (by decide) (fun q1 => ?_) (fun q1 => ?_)
  · skip
    refine J_iload_n h dX8_make_9 rfl rfl ?_
    refine J_iconst h dX8_make_10 ci_3 ?_
    refine J_icmp_ne (tgt := 18) h dX8_make_11 (by decide) (fun q2 => ?_) (fun q2 => ?_)
    · skip
      refine J_iload_n h dX8_make_18 rfl rfl ?_
      refine J_iconst h dX8_make_19 ci_4 ?_
      refine J_icmp_ne (tgt := 27) h dX8_make_20 (by decide) (fun q3 => ?_) (fun q3 => ?_)
      · skip
        refine J_iload_n h dX8_make_27 rfl rfl ?_
        refine J_iconst h dX8_make_28 ci_5 ?_
        refine J_icmp_ne (tgt := 43) h dX8_make_29 (by decide) (fun q4 => ?_) (fun q4 => ?_)
        · skip
          refine J_iload_n h dX8_make_43 rfl rfl ?_
          refine J_bipush h dX8_make_44 cb_6 ?_
          refine J_icmp_ne (tgt := 60) h dX8_make_46 (by decide) (fun q5 => ?_) (fun q5 => ?_)
          · skip
            refine J_iload_n h dX8_make_60 rfl rfl ?_
            refine J_bipush h dX8_make_61 cb_7 ?_
            refine J_icmp_ne (tgt := 77) h dX8_make_63 (by decide) (fun q6 => ?_) (fun q6 => ?_)
            · skip
              refine J_iload_n h dX8_make_77 rfl rfl ?_
              refine J_bipush h dX8_make_78 cb_8 ?_
              refine J_icmp_ne (tgt := 94) h dX8_make_80 (by decide) (fun q7 => ?_) (fun q7 => ?_)
              · skip
                refine J_iload_n h dX8_make_94 rfl rfl ?_
                refine J_bipush h dX8_make_95 cb_9 ?_
                refine J_icmp_ne (tgt := 106) h dX8_make_97 (by decide) (fun q8 => ?_) (fun q8 => ?_)
                · skip
                  refine J_iload_n h dX8_make_106 rfl rfl ?_
                  refine J_bipush h dX8_make_107 cb_10 ?_
                  refine J_icmp_ne (tgt := 118) h dX8_make_109 (by decide) (fun q9 => ?_) (fun q9 => ?_)
                  · skip
                    refine J_iload_n h dX8_make_118 rfl rfl ?_
                    refine J_iload_n h dX8_make_119 rfl rfl ?_
                    refine J_ixor h dX8_make_120 ?_
                    exact k10 q1 q2 q3 q4 q5 q6 q7 q8 q9
                  · skip
                    refine J_iload_n h dX8_make_112 rfl rfl ?_
                    refine J_iload_n h dX8_make_113 rfl rfl ?_
                    refine J_ior h dX8_make_114 ?_
                    refine J_goto (tgt := 121) h dX8_make_115 (by decide) ?_
                    exact k11 q1 q2 q3 q4 q5 q6 q7 q8 q9
                · skip
                  refine J_iload_n h dX8_make_100 rfl rfl ?_
                  refine J_iload_n h dX8_make_101 rfl rfl ?_
                  refine J_iand h dX8_make_102 ?_
                  refine J_goto (tgt := 121) h dX8_make_103 (by decide) ?_
                  exact k12 q1 q2 q3 q4 q5 q6 q7 q8
              · skip
                refine J_iload_n h dX8_make_83 rfl rfl ?_
                refine J_iload_n h dX8_make_84 rfl rfl ?_
                refine J_icmp_ne (tgt := 92) h dX8_make_85 (by decide) (fun q13 => ?_) (fun q13 => ?_)
                · skip
                  refine J_iconst h dX8_make_92 ci_0 ?_
                  exact k14 q1 q2 q3 q4 q5 q6 q7 q13
                · skip
                  refine J_iconst h dX8_make_88 ci_1 ?_
                  refine J_goto (tgt := 93) h dX8_make_89 (by decide) ?_
                  exact k15 q1 q2 q3 q4 q5 q6 q7 q13
            · skip
              refine J_iload_n h dX8_make_66 rfl rfl ?_
              refine J_iload_n h dX8_make_67 rfl rfl ?_
              refine J_icmp_ge (tgt := 75) h dX8_make_68 (by decide) (fun q16 => ?_) (fun q16 => ?_)
              · skip
                refine J_iconst h dX8_make_75 ci_0 ?_
                exact k17 q1 q2 q3 q4 q5 q6 q16
              · skip
                refine J_iconst h dX8_make_71 ci_1 ?_
                refine J_goto (tgt := 76) h dX8_make_72 (by decide) ?_
                exact k18 q1 q2 q3 q4 q5 q6 q16
          · skip
            refine J_iload_n h dX8_make_49 rfl rfl ?_
            refine J_iload_n h dX8_make_50 rfl rfl ?_
            refine J_icmp_le (tgt := 58) h dX8_make_51 (by decide) (fun q19 => ?_) (fun q19 => ?_)
            · skip
              refine J_iload_n h dX8_make_58 rfl rfl ?_
              exact k20 q1 q2 q3 q4 q5 q19
            · skip
              refine J_iload_n h dX8_make_54 rfl rfl ?_
              refine J_goto (tgt := 59) h dX8_make_55 (by decide) ?_
              exact k21 q1 q2 q3 q4 q5 q19
        · skip
          refine J_iload_n h dX8_make_32 rfl rfl ?_
          refine J_iload_n h dX8_make_33 rfl rfl ?_
          refine J_icmp_ge (tgt := 41) h dX8_make_34 (by decide) (fun q22 => ?_) (fun q22 => ?_)
          · skip
            refine J_iload_n h dX8_make_41 rfl rfl ?_
            exact k23 q1 q2 q3 q4 q22
          · skip
            refine J_iload_n h dX8_make_37 rfl rfl ?_
            refine J_goto (tgt := 42) h dX8_make_38 (by decide) ?_
            exact k24 q1 q2 q3 q4 q22
      · skip
        refine J_iload_n h dX8_make_23 rfl rfl ?_
        refine J_iload_n h dX8_make_24 rfl rfl ?_
        refine J_imul h dX8_make_25 ?_
        exact k25 q1 q2 q3
    · skip
      refine J_iload_n h dX8_make_14 rfl rfl ?_
      refine J_iload_n h dX8_make_15 rfl rfl ?_
      refine J_isub h dX8_make_16 ?_
      exact k26 q1 q2
  · skip
    refine J_iload_n h dX8_make_5 rfl rfl ?_
    refine J_iload_n h dX8_make_6 rfl rfl ?_
    refine J_iadd h dX8_make_7 ?_
    exact k27 q1
/-! LockstepNetModel.doWord(IIII)V -/
theorem rX8_doWord_0 {l : Launch} {G : jG} {X : jX} {Q : State → Prop} {n hg nc : Nat} {ret : Option FieldType} {mu : jM} {x1 : Int32} {x2 : Int32} {x3 : Int32} {x4 : Int32} (h : jOk l G X cX8_doWord 8 ret RX8 hg nc) (s1 : vp_in (4 * x1) 256) (s2 : vp_in ((4 * x1) + 1) 256) (s3 : vp_in ((4 * x1) + 2) 256) (s14 : ¬ (mu 65 ((4 * x1)).toNatClampNeg) = 0 → ¬ (mu 65 ((4 * x1)).toNatClampNeg) = 1 → 11 < (mu 65 ((4 * x1)).toNatClampNeg) → ¬ (mu 65 ((4 * x1)).toNatClampNeg) = 12 → ¬ (mu 65 ((4 * x1)).toNatClampNeg) = 13 → ¬ (mu 65 ((4 * x1)).toNatClampNeg) = 16 → ¬ (mu 65 ((4 * x1)).toNatClampNeg) = 17 → ¬ (mu 65 ((4 * x1)).toNatClampNeg) = 18 → ¬ (mu 65 ((4 * x1)).toNatClampNeg) = 19 → ¬ (mu 65 ((4 * x1)).toNatClampNeg) = 20 → vp_in x2 24) (s15 : ¬ (mu 65 ((4 * x1)).toNatClampNeg) = 0 → ¬ (mu 65 ((4 * x1)).toNatClampNeg) = 1 → 11 < (mu 65 ((4 * x1)).toNatClampNeg) → ¬ (mu 65 ((4 * x1)).toNatClampNeg) = 12 → ¬ (mu 65 ((4 * x1)).toNatClampNeg) = 13 → ¬ (mu 65 ((4 * x1)).toNatClampNeg) = 16 → ¬ (mu 65 ((4 * x1)).toNatClampNeg) = 17 → ¬ (mu 65 ((4 * x1)).toNatClampNeg) = 18 → ¬ (mu 65 ((4 * x1)).toNatClampNeg) = 19 → ¬ (mu 65 ((4 * x1)).toNatClampNeg) = 20 → vp_in (mu 65 (((4 * x1) + 1)).toNatClampNeg) 8) (s17 : ¬ (mu 65 ((4 * x1)).toNatClampNeg) = 0 → ¬ (mu 65 ((4 * x1)).toNatClampNeg) = 1 → 11 < (mu 65 ((4 * x1)).toNatClampNeg) → ¬ (mu 65 ((4 * x1)).toNatClampNeg) = 12 → ¬ (mu 65 ((4 * x1)).toNatClampNeg) = 13 → ¬ (mu 65 ((4 * x1)).toNatClampNeg) = 16 → ¬ (mu 65 ((4 * x1)).toNatClampNeg) = 17 → ¬ (mu 65 ((4 * x1)).toNatClampNeg) = 18 → ¬ (mu 65 ((4 * x1)).toNatClampNeg) = 19 → (mu 65 ((4 * x1)).toNatClampNeg) = 20 → vp_in (mu 65 (((4 * x1) + 1)).toNatClampNeg) 8) (s19 : ¬ (mu 65 ((4 * x1)).toNatClampNeg) = 0 → ¬ (mu 65 ((4 * x1)).toNatClampNeg) = 1 → 11 < (mu 65 ((4 * x1)).toNatClampNeg) → ¬ (mu 65 ((4 * x1)).toNatClampNeg) = 12 → ¬ (mu 65 ((4 * x1)).toNatClampNeg) = 13 → ¬ (mu 65 ((4 * x1)).toNatClampNeg) = 16 → ¬ (mu 65 ((4 * x1)).toNatClampNeg) = 17 → ¬ (mu 65 ((4 * x1)).toNatClampNeg) = 18 → (mu 65 ((4 * x1)).toNatClampNeg) = 19 → vp_in (mu 65 (((4 * x1) + 1)).toNatClampNeg) 8) (s21 : ¬ (mu 65 ((4 * x1)).toNatClampNeg) = 0 → ¬ (mu 65 ((4 * x1)).toNatClampNeg) = 1 → 11 < (mu 65 ((4 * x1)).toNatClampNeg) → ¬ (mu 65 ((4 * x1)).toNatClampNeg) = 12 → ¬ (mu 65 ((4 * x1)).toNatClampNeg) = 13 → ¬ (mu 65 ((4 * x1)).toNatClampNeg) = 16 → ¬ (mu 65 ((4 * x1)).toNatClampNeg) = 17 → (mu 65 ((4 * x1)).toNatClampNeg) = 18 → vp_in x4 24) (s22 : ¬ (mu 65 ((4 * x1)).toNatClampNeg) = 0 → ¬ (mu 65 ((4 * x1)).toNatClampNeg) = 1 → 11 < (mu 65 ((4 * x1)).toNatClampNeg) → ¬ (mu 65 ((4 * x1)).toNatClampNeg) = 12 → ¬ (mu 65 ((4 * x1)).toNatClampNeg) = 13 → ¬ (mu 65 ((4 * x1)).toNatClampNeg) = 16 → ¬ (mu 65 ((4 * x1)).toNatClampNeg) = 17 → (mu 65 ((4 * x1)).toNatClampNeg) = 18 → vp_in (mu 65 (((4 * x1) + 1)).toNatClampNeg) 8) (s23 : ¬ (mu 65 ((4 * x1)).toNatClampNeg) = 0 → ¬ (mu 65 ((4 * x1)).toNatClampNeg) = 1 → 11 < (mu 65 ((4 * x1)).toNatClampNeg) → ¬ (mu 65 ((4 * x1)).toNatClampNeg) = 12 → ¬ (mu 65 ((4 * x1)).toNatClampNeg) = 13 → ¬ (mu 65 ((4 * x1)).toNatClampNeg) = 16 → ¬ (mu 65 ((4 * x1)).toNatClampNeg) = 17 → (mu 65 ((4 * x1)).toNatClampNeg) = 18 → vp_in x4 24) (s25 : ¬ (mu 65 ((4 * x1)).toNatClampNeg) = 0 → ¬ (mu 65 ((4 * x1)).toNatClampNeg) = 1 → 11 < (mu 65 ((4 * x1)).toNatClampNeg) → ¬ (mu 65 ((4 * x1)).toNatClampNeg) = 12 → ¬ (mu 65 ((4 * x1)).toNatClampNeg) = 13 → ¬ (mu 65 ((4 * x1)).toNatClampNeg) = 16 → (mu 65 ((4 * x1)).toNatClampNeg) = 17 → vp_in x4 24) (s27 : ¬ (mu 65 ((4 * x1)).toNatClampNeg) = 0 → ¬ (mu 65 ((4 * x1)).toNatClampNeg) = 1 → 11 < (mu 65 ((4 * x1)).toNatClampNeg) → ¬ (mu 65 ((4 * x1)).toNatClampNeg) = 12 → ¬ (mu 65 ((4 * x1)).toNatClampNeg) = 13 → ¬ (mu 65 ((4 * x1)).toNatClampNeg) = 16 → (mu 65 ((4 * x1)).toNatClampNeg) = 17 → (mu 67 (x4).toNatClampNeg) = 0 → vp_in (mu 65 (((4 * x1) + 1)).toNatClampNeg) 8) (s29 : ¬ (mu 65 ((4 * x1)).toNatClampNeg) = 0 → ¬ (mu 65 ((4 * x1)).toNatClampNeg) = 1 → 11 < (mu 65 ((4 * x1)).toNatClampNeg) → ¬ (mu 65 ((4 * x1)).toNatClampNeg) = 12 → ¬ (mu 65 ((4 * x1)).toNatClampNeg) = 13 → ¬ (mu 65 ((4 * x1)).toNatClampNeg) = 16 → (mu 65 ((4 * x1)).toNatClampNeg) = 17 → ¬ (mu 67 (x4).toNatClampNeg) = 0 → vp_in x4 24) (s30 : ¬ (mu 65 ((4 * x1)).toNatClampNeg) = 0 → ¬ (mu 65 ((4 * x1)).toNatClampNeg) = 1 → 11 < (mu 65 ((4 * x1)).toNatClampNeg) → ¬ (mu 65 ((4 * x1)).toNatClampNeg) = 12 → ¬ (mu 65 ((4 * x1)).toNatClampNeg) = 13 → ¬ (mu 65 ((4 * x1)).toNatClampNeg) = 16 → (mu 65 ((4 * x1)).toNatClampNeg) = 17 → ¬ (mu 67 (x4).toNatClampNeg) = 0 → vp_in (mu 65 (((4 * x1) + 1)).toNatClampNeg) 8) (s32 : ¬ (mu 65 ((4 * x1)).toNatClampNeg) = 0 → ¬ (mu 65 ((4 * x1)).toNatClampNeg) = 1 → 11 < (mu 65 ((4 * x1)).toNatClampNeg) → ¬ (mu 65 ((4 * x1)).toNatClampNeg) = 12 → ¬ (mu 65 ((4 * x1)).toNatClampNeg) = 13 → (mu 65 ((4 * x1)).toNatClampNeg) = 16 → vp_in x4 24) (s34 : ¬ (mu 65 ((4 * x1)).toNatClampNeg) = 0 → ¬ (mu 65 ((4 * x1)).toNatClampNeg) = 1 → 11 < (mu 65 ((4 * x1)).toNatClampNeg) → ¬ (mu 65 ((4 * x1)).toNatClampNeg) = 12 → ¬ (mu 65 ((4 * x1)).toNatClampNeg) = 13 → (mu 65 ((4 * x1)).toNatClampNeg) = 16 → (mu 67 (x4).toNatClampNeg) = 0 → vp_in (mu 65 (((4 * x1) + 1)).toNatClampNeg) 8) (s36 : ¬ (mu 65 ((4 * x1)).toNatClampNeg) = 0 → ¬ (mu 65 ((4 * x1)).toNatClampNeg) = 1 → 11 < (mu 65 ((4 * x1)).toNatClampNeg) → ¬ (mu 65 ((4 * x1)).toNatClampNeg) = 12 → ¬ (mu 65 ((4 * x1)).toNatClampNeg) = 13 → (mu 65 ((4 * x1)).toNatClampNeg) = 16 → ¬ (mu 67 (x4).toNatClampNeg) = 0 → vp_in (mu 65 (((4 * x1) + 1)).toNatClampNeg) 8) (s38 : ¬ (mu 65 ((4 * x1)).toNatClampNeg) = 0 → ¬ (mu 65 ((4 * x1)).toNatClampNeg) = 1 → 11 < (mu 65 ((4 * x1)).toNatClampNeg) → ¬ (mu 65 ((4 * x1)).toNatClampNeg) = 12 → (mu 65 ((4 * x1)).toNatClampNeg) = 13 → vp_in (mu 65 (((4 * x1) + 2)).toNatClampNeg) 8) (s40 : ¬ (mu 65 ((4 * x1)).toNatClampNeg) = 0 → ¬ (mu 65 ((4 * x1)).toNatClampNeg) = 1 → 11 < (mu 65 ((4 * x1)).toNatClampNeg) → (mu 65 ((4 * x1)).toNatClampNeg) = 12 → vp_in (mu 65 (((4 * x1) + 2)).toNatClampNeg) 8) (s41 : ¬ (mu 65 ((4 * x1)).toNatClampNeg) = 0 → ¬ (mu 65 ((4 * x1)).toNatClampNeg) = 1 → 11 < (mu 65 ((4 * x1)).toNatClampNeg) → (mu 65 ((4 * x1)).toNatClampNeg) = 12 → vp_in (mu 65 (((4 * x1) + 1)).toNatClampNeg) 8) (s43 : ¬ (mu 65 ((4 * x1)).toNatClampNeg) = 0 → ¬ (mu 65 ((4 * x1)).toNatClampNeg) = 1 → ¬ 11 < (mu 65 ((4 * x1)).toNatClampNeg) → vp_in (mu 65 (((4 * x1) + 2)).toNatClampNeg) 8) (s44 : ¬ (mu 65 ((4 * x1)).toNatClampNeg) = 0 → ¬ (mu 65 ((4 * x1)).toNatClampNeg) = 1 → ¬ 11 < (mu 65 ((4 * x1)).toNatClampNeg) → vp_in ((4 * x1) + 3) 256) (s45 : ¬ (mu 65 ((4 * x1)).toNatClampNeg) = 0 → ¬ (mu 65 ((4 * x1)).toNatClampNeg) = 1 → ¬ 11 < (mu 65 ((4 * x1)).toNatClampNeg) → vp_in (mu 65 (((4 * x1) + 3)).toNatClampNeg) 8) (s47 : ¬ (mu 65 ((4 * x1)).toNatClampNeg) = 0 → (mu 65 ((4 * x1)).toNatClampNeg) = 1 → vp_in (mu 65 (((4 * x1) + 2)).toNatClampNeg) 8) (s48 : ¬ (mu 65 ((4 * x1)).toNatClampNeg) = 0 → (mu 65 ((4 * x1)).toNatClampNeg) = 1 → vp_in (mu 65 (((4 * x1) + 1)).toNatClampNeg) 8) (s50 : (mu 65 ((4 * x1)).toNatClampNeg) = 0 → vp_in (mu 65 (((4 * x1) + 1)).toNatClampNeg) 8)
    (k16 : ¬ (mu 65 ((4 * x1)).toNatClampNeg) = 0 → ¬ (mu 65 ((4 * x1)).toNatClampNeg) = 1 → 11 < (mu 65 ((4 * x1)).toNatClampNeg) → ¬ (mu 65 ((4 * x1)).toNatClampNeg) = 12 → ¬ (mu 65 ((4 * x1)).toNatClampNeg) = 13 → ¬ (mu 65 ((4 * x1)).toNatClampNeg) = 16 → ¬ (mu 65 ((4 * x1)).toNatClampNeg) = 17 → ¬ (mu 65 ((4 * x1)).toNatClampNeg) = 18 → ¬ (mu 65 ((4 * x1)).toNatClampNeg) = 19 → ¬ (mu 65 ((4 * x1)).toNatClampNeg) = 20 → J l G X Q 8 311 [.ref 58, .int x1, .int x2, .int x3, .int x4, .int (mu 65 ((4 * x1)).toNatClampNeg), .int (mu 65 (((4 * x1) + 1)).toNatClampNeg), .int (mu 65 (((4 * x1) + 2)).toNatClampNeg)] [] (wr mu 66 ((mu 65 (((4 * x1) + 1)).toNatClampNeg)).toNatClampNeg (mu 61 (x2).toNatClampNeg)) n)
    (k18 : ¬ (mu 65 ((4 * x1)).toNatClampNeg) = 0 → ¬ (mu 65 ((4 * x1)).toNatClampNeg) = 1 → 11 < (mu 65 ((4 * x1)).toNatClampNeg) → ¬ (mu 65 ((4 * x1)).toNatClampNeg) = 12 → ¬ (mu 65 ((4 * x1)).toNatClampNeg) = 13 → ¬ (mu 65 ((4 * x1)).toNatClampNeg) = 16 → ¬ (mu 65 ((4 * x1)).toNatClampNeg) = 17 → ¬ (mu 65 ((4 * x1)).toNatClampNeg) = 18 → ¬ (mu 65 ((4 * x1)).toNatClampNeg) = 19 → (mu 65 ((4 * x1)).toNatClampNeg) = 20 → J l G X Q 8 311 [.ref 58, .int x1, .int x2, .int x3, .int x4, .int (mu 65 ((4 * x1)).toNatClampNeg), .int (mu 65 (((4 * x1) + 1)).toNatClampNeg), .int (mu 65 (((4 * x1) + 2)).toNatClampNeg)] [] (wr mu 66 ((mu 65 (((4 * x1) + 1)).toNatClampNeg)).toNatClampNeg x2) n)
    (k20 : ¬ (mu 65 ((4 * x1)).toNatClampNeg) = 0 → ¬ (mu 65 ((4 * x1)).toNatClampNeg) = 1 → 11 < (mu 65 ((4 * x1)).toNatClampNeg) → ¬ (mu 65 ((4 * x1)).toNatClampNeg) = 12 → ¬ (mu 65 ((4 * x1)).toNatClampNeg) = 13 → ¬ (mu 65 ((4 * x1)).toNatClampNeg) = 16 → ¬ (mu 65 ((4 * x1)).toNatClampNeg) = 17 → ¬ (mu 65 ((4 * x1)).toNatClampNeg) = 18 → (mu 65 ((4 * x1)).toNatClampNeg) = 19 → J l G X Q 8 311 [.ref 58, .int x1, .int x2, .int x3, .int x4, .int (mu 65 ((4 * x1)).toNatClampNeg), .int (mu 65 (((4 * x1) + 1)).toNatClampNeg), .int (mu 65 (((4 * x1) + 2)).toNatClampNeg)] [] (wr mu 66 ((mu 65 (((4 * x1) + 1)).toNatClampNeg)).toNatClampNeg x3) n)
    (k24 : ¬ (mu 65 ((4 * x1)).toNatClampNeg) = 0 → ¬ (mu 65 ((4 * x1)).toNatClampNeg) = 1 → 11 < (mu 65 ((4 * x1)).toNatClampNeg) → ¬ (mu 65 ((4 * x1)).toNatClampNeg) = 12 → ¬ (mu 65 ((4 * x1)).toNatClampNeg) = 13 → ¬ (mu 65 ((4 * x1)).toNatClampNeg) = 16 → ¬ (mu 65 ((4 * x1)).toNatClampNeg) = 17 → (mu 65 ((4 * x1)).toNatClampNeg) = 18 → J l G X Q 8 311 [.ref 58, .int x1, .int x2, .int x3, .int x4, .int (mu 65 ((4 * x1)).toNatClampNeg), .int (mu 65 (((4 * x1) + 1)).toNatClampNeg), .int (mu 65 (((4 * x1) + 2)).toNatClampNeg)] [] (wr (wr mu 69 (x4).toNatClampNeg (vp_nar .boolean 1)) 70 (x4).toNatClampNeg (mu 66 ((mu 65 (((4 * x1) + 1)).toNatClampNeg)).toNatClampNeg)) n)
    (k28 : ¬ (mu 65 ((4 * x1)).toNatClampNeg) = 0 → ¬ (mu 65 ((4 * x1)).toNatClampNeg) = 1 → 11 < (mu 65 ((4 * x1)).toNatClampNeg) → ¬ (mu 65 ((4 * x1)).toNatClampNeg) = 12 → ¬ (mu 65 ((4 * x1)).toNatClampNeg) = 13 → ¬ (mu 65 ((4 * x1)).toNatClampNeg) = 16 → (mu 65 ((4 * x1)).toNatClampNeg) = 17 → (mu 67 (x4).toNatClampNeg) = 0 → J l G X Q 8 311 [.ref 58, .int x1, .int x2, .int x3, .int x4, .int (mu 65 ((4 * x1)).toNatClampNeg), .int (mu 65 (((4 * x1) + 1)).toNatClampNeg), .int (mu 65 (((4 * x1) + 2)).toNatClampNeg)] [] (wr mu 66 ((mu 65 (((4 * x1) + 1)).toNatClampNeg)).toNatClampNeg 0) n)
    (k31 : ¬ (mu 65 ((4 * x1)).toNatClampNeg) = 0 → ¬ (mu 65 ((4 * x1)).toNatClampNeg) = 1 → 11 < (mu 65 ((4 * x1)).toNatClampNeg) → ¬ (mu 65 ((4 * x1)).toNatClampNeg) = 12 → ¬ (mu 65 ((4 * x1)).toNatClampNeg) = 13 → ¬ (mu 65 ((4 * x1)).toNatClampNeg) = 16 → (mu 65 ((4 * x1)).toNatClampNeg) = 17 → ¬ (mu 67 (x4).toNatClampNeg) = 0 → J l G X Q 8 311 [.ref 58, .int x1, .int x2, .int x3, .int x4, .int (mu 65 ((4 * x1)).toNatClampNeg), .int (mu 65 (((4 * x1) + 1)).toNatClampNeg), .int (mu 65 (((4 * x1) + 2)).toNatClampNeg)] [] (wr mu 66 ((mu 65 (((4 * x1) + 1)).toNatClampNeg)).toNatClampNeg (mu 68 (x4).toNatClampNeg)) n)
    (k35 : ¬ (mu 65 ((4 * x1)).toNatClampNeg) = 0 → ¬ (mu 65 ((4 * x1)).toNatClampNeg) = 1 → 11 < (mu 65 ((4 * x1)).toNatClampNeg) → ¬ (mu 65 ((4 * x1)).toNatClampNeg) = 12 → ¬ (mu 65 ((4 * x1)).toNatClampNeg) = 13 → (mu 65 ((4 * x1)).toNatClampNeg) = 16 → (mu 67 (x4).toNatClampNeg) = 0 → J l G X Q 8 311 [.ref 58, .int x1, .int x2, .int x3, .int x4, .int (mu 65 ((4 * x1)).toNatClampNeg), .int (mu 65 (((4 * x1) + 1)).toNatClampNeg), .int (mu 65 (((4 * x1) + 2)).toNatClampNeg)] [] (wr mu 66 ((mu 65 (((4 * x1) + 1)).toNatClampNeg)).toNatClampNeg 0) n)
    (k37 : ¬ (mu 65 ((4 * x1)).toNatClampNeg) = 0 → ¬ (mu 65 ((4 * x1)).toNatClampNeg) = 1 → 11 < (mu 65 ((4 * x1)).toNatClampNeg) → ¬ (mu 65 ((4 * x1)).toNatClampNeg) = 12 → ¬ (mu 65 ((4 * x1)).toNatClampNeg) = 13 → (mu 65 ((4 * x1)).toNatClampNeg) = 16 → ¬ (mu 67 (x4).toNatClampNeg) = 0 → J l G X Q 8 311 [.ref 58, .int x1, .int x2, .int x3, .int x4, .int (mu 65 ((4 * x1)).toNatClampNeg), .int (mu 65 (((4 * x1) + 1)).toNatClampNeg), .int (mu 65 (((4 * x1) + 2)).toNatClampNeg)] [] (wr mu 66 ((mu 65 (((4 * x1) + 1)).toNatClampNeg)).toNatClampNeg 1) n)
    (k39 : ¬ (mu 65 ((4 * x1)).toNatClampNeg) = 0 → ¬ (mu 65 ((4 * x1)).toNatClampNeg) = 1 → 11 < (mu 65 ((4 * x1)).toNatClampNeg) → ¬ (mu 65 ((4 * x1)).toNatClampNeg) = 12 → (mu 65 ((4 * x1)).toNatClampNeg) = 13 → J l G X Q 8 167 [.ref 58, .int x1, .int x2, .int x3, .int x4, .int (mu 65 ((4 * x1)).toNatClampNeg), .int (mu 65 (((4 * x1) + 1)).toNatClampNeg), .int (mu 65 (((4 * x1) + 2)).toNatClampNeg)] [.int (mu 66 ((mu 65 (((4 * x1) + 2)).toNatClampNeg)).toNatClampNeg), .int (mu 65 (((4 * x1) + 1)).toNatClampNeg), .ref 66] mu n)
    (k42 : ¬ (mu 65 ((4 * x1)).toNatClampNeg) = 0 → ¬ (mu 65 ((4 * x1)).toNatClampNeg) = 1 → 11 < (mu 65 ((4 * x1)).toNatClampNeg) → (mu 65 ((4 * x1)).toNatClampNeg) = 12 → J l G X Q 8 311 [.ref 58, .int x1, .int x2, .int x3, .int x4, .int (mu 65 ((4 * x1)).toNatClampNeg), .int (mu 65 (((4 * x1) + 1)).toNatClampNeg), .int (mu 65 (((4 * x1) + 2)).toNatClampNeg)] [] (wr mu 66 ((mu 65 (((4 * x1) + 1)).toNatClampNeg)).toNatClampNeg (1 <<< (((mu 66 ((mu 65 (((4 * x1) + 2)).toNatClampNeg)).toNatClampNeg) &&& 31) &&& 31))) n)
    (k46 : ¬ (mu 65 ((4 * x1)).toNatClampNeg) = 0 → ¬ (mu 65 ((4 * x1)).toNatClampNeg) = 1 → ¬ 11 < (mu 65 ((4 * x1)).toNatClampNeg) → J l G X Q 8 111 [.ref 58, .int x1, .int x2, .int x3, .int x4, .int (mu 65 ((4 * x1)).toNatClampNeg), .int (mu 65 (((4 * x1) + 1)).toNatClampNeg), .int (mu 65 (((4 * x1) + 2)).toNatClampNeg)] [.int (mu 66 ((mu 65 (((4 * x1) + 3)).toNatClampNeg)).toNatClampNeg), .int (mu 66 ((mu 65 (((4 * x1) + 2)).toNatClampNeg)).toNatClampNeg), .int (mu 65 ((4 * x1)).toNatClampNeg), .int (mu 65 (((4 * x1) + 1)).toNatClampNeg), .ref 66] mu n)
    (k49 : ¬ (mu 65 ((4 * x1)).toNatClampNeg) = 0 → (mu 65 ((4 * x1)).toNatClampNeg) = 1 → J l G X Q 8 311 [.ref 58, .int x1, .int x2, .int x3, .int x4, .int (mu 65 ((4 * x1)).toNatClampNeg), .int (mu 65 (((4 * x1) + 1)).toNatClampNeg), .int (mu 65 (((4 * x1) + 2)).toNatClampNeg)] [] (wr mu 66 ((mu 65 (((4 * x1) + 1)).toNatClampNeg)).toNatClampNeg (mu 66 ((mu 65 (((4 * x1) + 2)).toNatClampNeg)).toNatClampNeg)) n)
    (k51 : (mu 65 ((4 * x1)).toNatClampNeg) = 0 → J l G X Q 8 311 [.ref 58, .int x1, .int x2, .int x3, .int x4, .int (mu 65 ((4 * x1)).toNatClampNeg), .int (mu 65 (((4 * x1) + 1)).toNatClampNeg), .int (mu 65 (((4 * x1) + 2)).toNatClampNeg)] [] (wr mu 66 ((mu 65 (((4 * x1) + 1)).toNatClampNeg)).toNatClampNeg (mu 65 (((4 * x1) + 2)).toNatClampNeg)) n) :
    J l G X Q 8 0 [.ref 58, .int x1, .int x2, .int x3, .int x4, .float 0, .float 0, .float 0] [] mu n := by
  refine J_aload_n h dX8_doWord_0 rfl rfl ?_
  refine J_getr (k := 10) h dX8_doWord_1 jc8 rfl rfl (by decide) w994 ?_
  refine J_iconst h dX8_doWord_4 ci_4 ?_
  refine J_iload_n h dX8_doWord_5 rfl rfl ?_
  refine J_imul h dX8_doWord_6 ?_
  refine J_iald h dX8_doWord_7 rfl (s1) ?_
  refine J_istore h dX8_doWord_8 (by decide) rfl ?_
  show J l G X Q 8 10 [.ref 58, .int x1, .int x2, .int x3, .int x4, .int (mu 65 ((4 * x1)).toNatClampNeg), .float 0, .float 0] [] mu n
  refine J_aload_n h dX8_doWord_10 rfl rfl ?_
  refine J_getr (k := 10) h dX8_doWord_11 jc8 rfl rfl (by decide) w994 ?_
  refine J_iconst h dX8_doWord_14 ci_4 ?_
  refine J_iload_n h dX8_doWord_15 rfl rfl ?_
  refine J_imul h dX8_doWord_16 ?_
  refine J_iconst h dX8_doWord_17 ci_1 ?_
  refine J_iadd h dX8_doWord_18 ?_
  refine J_iald h dX8_doWord_19 rfl (s2) ?_
  refine J_istore h dX8_doWord_20 (by decide) rfl ?_
  show J l G X Q 8 22 [.ref 58, .int x1, .int x2, .int x3, .int x4, .int (mu 65 ((4 * x1)).toNatClampNeg), .int (mu 65 (((4 * x1) + 1)).toNatClampNeg), .float 0] [] mu n
  refine J_aload_n h dX8_doWord_22 rfl rfl ?_
  refine J_getr (k := 10) h dX8_doWord_23 jc8 rfl rfl (by decide) w994 ?_
  refine J_iconst h dX8_doWord_26 ci_4 ?_
  refine J_iload_n h dX8_doWord_27 rfl rfl ?_
  refine J_imul h dX8_doWord_28 ?_
  refine J_iconst h dX8_doWord_29 ci_2 ?_
  refine J_iadd h dX8_doWord_30 ?_
  refine J_iald h dX8_doWord_31 rfl (s3) ?_
  refine J_istore h dX8_doWord_32 (by decide) rfl ?_
  show J l G X Q 8 34 [.ref 58, .int x1, .int x2, .int x3, .int x4, .int (mu 65 ((4 * x1)).toNatClampNeg), .int (mu 65 (((4 * x1) + 1)).toNatClampNeg), .int (mu 65 (((4 * x1) + 2)).toNatClampNeg)] [] mu n
  refine J_iload h dX8_doWord_34 rfl ?_
  refine J_if_ne (tgt := 51) h dX8_doWord_36 (by decide) (fun q4 => ?_) (fun q4 => ?_)
  · skip
    refine J_iload h dX8_doWord_51 rfl ?_
    refine J_iconst h dX8_doWord_53 ci_1 ?_
    refine J_icmp_ne (tgt := 74) h dX8_doWord_54 (by decide) (fun q5 => ?_) (fun q5 => ?_)
    · skip
      refine J_iload h dX8_doWord_74 rfl ?_
      refine J_bipush h dX8_doWord_76 cb_11 ?_
      refine J_icmp_gt (tgt := 118) h dX8_doWord_78 (by decide) (fun q6 => ?_) (fun q6 => ?_)
      · skip
        refine J_iload h dX8_doWord_118 rfl ?_
        refine J_bipush h dX8_doWord_120 cb_12 ?_
        refine J_icmp_ne (tgt := 147) h dX8_doWord_122 (by decide) (fun q7 => ?_) (fun q7 => ?_)
        · skip
          refine J_iload h dX8_doWord_147 rfl ?_
          refine J_bipush h dX8_doWord_149 cb_13 ?_
          refine J_icmp_ne (tgt := 174) h dX8_doWord_151 (by decide) (fun q8 => ?_) (fun q8 => ?_)
          · skip
            refine J_iload h dX8_doWord_174 rfl ?_
            refine J_bipush h dX8_doWord_176 cb_16 ?_
            refine J_icmp_ne (tgt := 206) h dX8_doWord_178 (by decide) (fun q9 => ?_) (fun q9 => ?_)
            · skip
              refine J_iload h dX8_doWord_206 rfl ?_
              refine J_bipush h dX8_doWord_208 cb_17 ?_
              refine J_icmp_ne (tgt := 244) h dX8_doWord_210 (by decide) (fun q10 => ?_) (fun q10 => ?_)
              · skip
                refine J_iload h dX8_doWord_244 rfl ?_
                refine J_bipush h dX8_doWord_246 cb_18 ?_
                refine J_icmp_ne (tgt := 276) h dX8_doWord_248 (by decide) (fun q11 => ?_) (fun q11 => ?_)
                · skip
                  refine J_aload_n h dX8_doWord_276 rfl rfl ?_
                  refine J_getr (k := 11) h dX8_doWord_277 jc8 rfl rfl (by decide) w995 ?_
                  refine J_iload h dX8_doWord_280 rfl ?_
                  refine J_iload h dX8_doWord_282 rfl ?_
                  refine J_bipush h dX8_doWord_284 cb_19 ?_
                  refine J_icmp_ne (tgt := 293) h dX8_doWord_286 (by decide) (fun q12 => ?_) (fun q12 => ?_)
                  · skip
                    refine J_iload h dX8_doWord_293 rfl ?_
                    refine J_bipush h dX8_doWord_295 cb_20 ?_
                    refine J_icmp_ne (tgt := 304) h dX8_doWord_297 (by decide) (fun q13 => ?_) (fun q13 => ?_)
                    · skip
                      refine J_aload_n h dX8_doWord_304 rfl rfl ?_
                      refine J_getr (k := 5) h dX8_doWord_305 jc8 rfl rfl (by decide) w989 ?_
                      refine J_iload_n h dX8_doWord_308 rfl rfl ?_
                      refine J_iald h dX8_doWord_309 rfl (s14 q4 q5 q6 q7 q8 q9 q10 q11 q12 q13) ?_
                      refine J_iast h dX8_doWord_310 rfl (s15 q4 q5 q6 q7 q8 q9 q10 q11 q12 q13) ?_
                      exact k16 q4 q5 q6 q7 q8 q9 q10 q11 q12 q13
                    · skip
                      refine J_iload_n h dX8_doWord_300 rfl rfl ?_
                      refine J_goto (tgt := 310) h dX8_doWord_301 (by decide) ?_
                      refine J_iast h dX8_doWord_310 rfl (s17 q4 q5 q6 q7 q8 q9 q10 q11 q12 q13) ?_
                      exact k18 q4 q5 q6 q7 q8 q9 q10 q11 q12 q13
                  · skip
                    refine J_iload_n h dX8_doWord_289 rfl rfl ?_
                    refine J_goto (tgt := 310) h dX8_doWord_290 (by decide) ?_
                    refine J_iast h dX8_doWord_310 rfl (s19 q4 q5 q6 q7 q8 q9 q10 q11 q12) ?_
                    exact k20 q4 q5 q6 q7 q8 q9 q10 q11 q12
                · skip
                  refine J_aload_n h dX8_doWord_251 rfl rfl ?_
                  refine J_getr (k := 14) h dX8_doWord_252 jc8 rfl rfl (by decide) w998 ?_
                  refine J_iload h dX8_doWord_255 rfl ?_
                  refine J_iconst h dX8_doWord_257 ci_1 ?_
                  refine J_zast h dX8_doWord_258 rfl (s21 q4 q5 q6 q7 q8 q9 q10 q11) ?_
                  refine J_aload_n h dX8_doWord_259 rfl rfl ?_
                  refine J_getr (k := 15) h dX8_doWord_260 jc8 rfl rfl (by decide) w999 ?_
                  refine J_iload h dX8_doWord_263 rfl ?_
                  refine J_aload_n h dX8_doWord_265 rfl rfl ?_
                  refine J_getr (k := 11) h dX8_doWord_266 jc8 rfl rfl (by decide) w995 ?_
                  refine J_iload h dX8_doWord_269 rfl ?_
                  refine J_iald h dX8_doWord_271 rfl (s22 q4 q5 q6 q7 q8 q9 q10 q11) ?_
                  refine J_iast h dX8_doWord_272 rfl (s23 q4 q5 q6 q7 q8 q9 q10 q11) ?_
                  refine J_goto (tgt := 311) h dX8_doWord_273 (by decide) ?_
                  exact k24 q4 q5 q6 q7 q8 q9 q10 q11
              · skip
                refine J_aload_n h dX8_doWord_213 rfl rfl ?_
                refine J_getr (k := 11) h dX8_doWord_214 jc8 rfl rfl (by decide) w995 ?_
                refine J_iload h dX8_doWord_217 rfl ?_
                refine J_aload_n h dX8_doWord_219 rfl rfl ?_
                refine J_getr (k := 12) h dX8_doWord_220 jc8 rfl rfl (by decide) w996 ?_
                refine J_iload h dX8_doWord_223 rfl ?_
                refine J_zald h dX8_doWord_225 rfl (s25 q4 q5 q6 q7 q8 q9 q10) ?_
                refine J_if_eq (tgt := 239) h dX8_doWord_226 (by decide) (fun q26 => ?_) (fun q26 => ?_)
                · skip
                  refine J_iconst h dX8_doWord_239 ci_0 ?_
                  refine J_iast h dX8_doWord_240 rfl (s27 q4 q5 q6 q7 q8 q9 q10 q26) ?_
                  refine J_goto (tgt := 311) h dX8_doWord_241 (by decide) ?_
                  exact k28 q4 q5 q6 q7 q8 q9 q10 q26
                · skip
                  refine J_aload_n h dX8_doWord_229 rfl rfl ?_
                  refine J_getr (k := 13) h dX8_doWord_230 jc8 rfl rfl (by decide) w997 ?_
                  refine J_iload h dX8_doWord_233 rfl ?_
                  refine J_iald h dX8_doWord_235 rfl (s29 q4 q5 q6 q7 q8 q9 q10 q26) ?_
                  refine J_goto (tgt := 240) h dX8_doWord_236 (by decide) ?_
                  refine J_iast h dX8_doWord_240 rfl (s30 q4 q5 q6 q7 q8 q9 q10 q26) ?_
                  refine J_goto (tgt := 311) h dX8_doWord_241 (by decide) ?_
                  exact k31 q4 q5 q6 q7 q8 q9 q10 q26
            · skip
              refine J_aload_n h dX8_doWord_181 rfl rfl ?_
              refine J_getr (k := 11) h dX8_doWord_182 jc8 rfl rfl (by decide) w995 ?_
              refine J_iload h dX8_doWord_185 rfl ?_
              refine J_aload_n h dX8_doWord_187 rfl rfl ?_
              refine J_getr (k := 12) h dX8_doWord_188 jc8 rfl rfl (by decide) w996 ?_
              refine J_iload h dX8_doWord_191 rfl ?_
              refine J_zald h dX8_doWord_193 rfl (s32 q4 q5 q6 q7 q8 q9) ?_
              refine J_if_eq (tgt := 201) h dX8_doWord_194 (by decide) (fun q33 => ?_) (fun q33 => ?_)
              · skip
                refine J_iconst h dX8_doWord_201 ci_0 ?_
                refine J_iast h dX8_doWord_202 rfl (s34 q4 q5 q6 q7 q8 q9 q33) ?_
                refine J_goto (tgt := 311) h dX8_doWord_203 (by decide) ?_
                exact k35 q4 q5 q6 q7 q8 q9 q33
              · skip
                refine J_iconst h dX8_doWord_197 ci_1 ?_
                refine J_goto (tgt := 202) h dX8_doWord_198 (by decide) ?_
                refine J_iast h dX8_doWord_202 rfl (s36 q4 q5 q6 q7 q8 q9 q33) ?_
                refine J_goto (tgt := 311) h dX8_doWord_203 (by decide) ?_
                exact k37 q4 q5 q6 q7 q8 q9 q33
          · skip
            refine J_aload_n h dX8_doWord_154 rfl rfl ?_
            refine J_getr (k := 11) h dX8_doWord_155 jc8 rfl rfl (by decide) w995 ?_
            refine J_iload h dX8_doWord_158 rfl ?_
            refine J_aload_n h dX8_doWord_160 rfl rfl ?_
            refine J_getr (k := 11) h dX8_doWord_161 jc8 rfl rfl (by decide) w995 ?_
            refine J_iload h dX8_doWord_164 rfl ?_
            refine J_iald h dX8_doWord_166 rfl (s38 q4 q5 q6 q7 q8) ?_
            exact k39 q4 q5 q6 q7 q8
        · skip
          refine J_aload_n h dX8_doWord_125 rfl rfl ?_
          refine J_getr (k := 11) h dX8_doWord_126 jc8 rfl rfl (by decide) w995 ?_
          refine J_iload h dX8_doWord_129 rfl ?_
          refine J_iconst h dX8_doWord_131 ci_1 ?_
          refine J_aload_n h dX8_doWord_132 rfl rfl ?_
          refine J_getr (k := 11) h dX8_doWord_133 jc8 rfl rfl (by decide) w995 ?_
          refine J_iload h dX8_doWord_136 rfl ?_
          refine J_iald h dX8_doWord_138 rfl (s40 q4 q5 q6 q7) ?_
          refine J_bipush h dX8_doWord_139 cb_31 ?_
          refine J_iand h dX8_doWord_141 ?_
          refine J_ishl h dX8_doWord_142 ?_
          refine J_iast h dX8_doWord_143 rfl (s41 q4 q5 q6 q7) ?_
          refine J_goto (tgt := 311) h dX8_doWord_144 (by decide) ?_
          exact k42 q4 q5 q6 q7
      · skip
        refine J_aload_n h dX8_doWord_81 rfl rfl ?_
        refine J_getr (k := 11) h dX8_doWord_82 jc8 rfl rfl (by decide) w995 ?_
        refine J_iload h dX8_doWord_85 rfl ?_
        refine J_iload h dX8_doWord_87 rfl ?_
        refine J_aload_n h dX8_doWord_89 rfl rfl ?_
        refine J_getr (k := 11) h dX8_doWord_90 jc8 rfl rfl (by decide) w995 ?_
        refine J_iload h dX8_doWord_93 rfl ?_
        refine J_iald h dX8_doWord_95 rfl (s43 q4 q5 q6) ?_
        refine J_aload_n h dX8_doWord_96 rfl rfl ?_
        refine J_getr (k := 11) h dX8_doWord_97 jc8 rfl rfl (by decide) w995 ?_
        refine J_aload_n h dX8_doWord_100 rfl rfl ?_
        refine J_getr (k := 10) h dX8_doWord_101 jc8 rfl rfl (by decide) w994 ?_
        refine J_iconst h dX8_doWord_104 ci_4 ?_
        refine J_iload_n h dX8_doWord_105 rfl rfl ?_
        refine J_imul h dX8_doWord_106 ?_
        refine J_iconst h dX8_doWord_107 ci_3 ?_
        refine J_iadd h dX8_doWord_108 ?_
        refine J_iald h dX8_doWord_109 rfl (s44 q4 q5 q6) ?_
        refine J_iald h dX8_doWord_110 rfl (s45 q4 q5 q6) ?_
        exact k46 q4 q5 q6
    · skip
      refine J_aload_n h dX8_doWord_57 rfl rfl ?_
      refine J_getr (k := 11) h dX8_doWord_58 jc8 rfl rfl (by decide) w995 ?_
      refine J_iload h dX8_doWord_61 rfl ?_
      refine J_aload_n h dX8_doWord_63 rfl rfl ?_
      refine J_getr (k := 11) h dX8_doWord_64 jc8 rfl rfl (by decide) w995 ?_
      refine J_iload h dX8_doWord_67 rfl ?_
      refine J_iald h dX8_doWord_69 rfl (s47 q4 q5) ?_
      refine J_iast h dX8_doWord_70 rfl (s48 q4 q5) ?_
      refine J_goto (tgt := 311) h dX8_doWord_71 (by decide) ?_
      exact k49 q4 q5
  · skip
    refine J_aload_n h dX8_doWord_39 rfl rfl ?_
    refine J_getr (k := 11) h dX8_doWord_40 jc8 rfl rfl (by decide) w995 ?_
    refine J_iload h dX8_doWord_43 rfl ?_
    refine J_iload h dX8_doWord_45 rfl ?_
    refine J_iast h dX8_doWord_47 rfl (s50 q4) ?_
    refine J_goto (tgt := 311) h dX8_doWord_48 (by decide) ?_
    exact k51 q4
theorem rX8_doWord_167 {l : Launch} {G : jG} {X : jX} {Q : State → Prop} {n hg nc : Nat} {ret : Option FieldType} {mu : jM} {x1 : Int32} {x2 : Int32} {x3 : Int32} {x4 : Int32} {x5 : Int32} {x6 : Int32} {x7 : Int32} {y0 : Int32} {y1 : Int32} {Qc : Int32 → jM → Prop} {h' : Nat} (h : jOk l G X cX8_doWord 8 ret RX8 hg nc) (hM : jCi l G yX8_lowestZero cX8_lowestZero 2 h' (some .int) [.int y0] mu Qc) (hh : h' < hg ∧ 2 ≤ 21) (hn : n ≤ nc)
    (kk : ∀ v mu', Qc v mu' → J l G X Q 8 170 [.ref 58, .int x1, .int x2, .int x3, .int x4, .int x5, .int x6, .int x7] (.int v :: [.int y1, .ref 66]) mu' n) :
    J l G X Q 8 167 [.ref 58, .int x1, .int x2, .int x3, .int x4, .int x5, .int x6, .int x7] [.int y0, .int y1, .ref 66] mu n :=
  J_callSi (As := [.int y0]) (rest := [.int y1, .ref 66]) h dX8_doWord_167 hM (jgS w1242 w1243 w84 w1244) nmX8_lowestZero rfl hh (Nat.le_of_ble_eq_true rfl) rfl kk hn
theorem rX8_doWord_111 {l : Launch} {G : jG} {X : jX} {Q : State → Prop} {n hg nc : Nat} {ret : Option FieldType} {mu : jM} {x1 : Int32} {x2 : Int32} {x3 : Int32} {x4 : Int32} {x5 : Int32} {x6 : Int32} {x7 : Int32} {y0 : Int32} {y1 : Int32} {y2 : Int32} {y3 : Int32} {Qc : Int32 → jM → Prop} {h' : Nat} (h : jOk l G X cX8_doWord 8 ret RX8 hg nc) (hM : jCi l G yX8_make cX8_make 3 h' (some .int) [.int y2, .int y1, .int y0] mu Qc) (hh : h' < hg ∧ 3 ≤ 21) (hn : n ≤ nc)
    (kk : ∀ v mu', Qc v mu' → J l G X Q 8 114 [.ref 58, .int x1, .int x2, .int x3, .int x4, .int x5, .int x6, .int x7] (.int v :: [.int y3, .ref 66]) mu' n) :
    J l G X Q 8 111 [.ref 58, .int x1, .int x2, .int x3, .int x4, .int x5, .int x6, .int x7] [.int y0, .int y1, .int y2, .int y3, .ref 66] mu n :=
  J_callSi (As := [.int y2, .int y1, .int y0]) (rest := [.int y3, .ref 66]) h dX8_doWord_111 hM (jgS w1239 w1240 w84 w1241) nmX8_make rfl hh (Nat.le_of_ble_eq_true rfl) rfl kk hn
theorem rX8_doWord_170 {l : Launch} {G : jG} {X : jX} {Q : State → Prop} {n hg nc : Nat} {ret : Option FieldType} {mu : jM} {x1 : Int32} {x2 : Int32} {x3 : Int32} {x4 : Int32} {x5 : Int32} {x6 : Int32} {x7 : Int32} {y0 : Int32} {y1 : Int32} (h : jOk l G X cX8_doWord 8 ret RX8 hg nc) (s1 : vp_in y1 8)
    (k2 : J l G X Q 8 311 [.ref 58, .int x1, .int x2, .int x3, .int x4, .int x5, .int x6, .int x7] [] (wr mu 66 (y1).toNatClampNeg y0) n) :
    J l G X Q 8 170 [.ref 58, .int x1, .int x2, .int x3, .int x4, .int x5, .int x6, .int x7] [.int y0, .int y1, .ref 66] mu n := by
  refine J_iast h dX8_doWord_170 rfl (s1) ?_
  refine J_goto (tgt := 311) h dX8_doWord_171 (by decide) ?_
  exact k2
theorem rX8_doWord_114 {l : Launch} {G : jG} {X : jX} {Q : State → Prop} {n hg nc : Nat} {ret : Option FieldType} {mu : jM} {x1 : Int32} {x2 : Int32} {x3 : Int32} {x4 : Int32} {x5 : Int32} {x6 : Int32} {x7 : Int32} {y0 : Int32} {y1 : Int32} (h : jOk l G X cX8_doWord 8 ret RX8 hg nc) (s1 : vp_in y1 8)
    (k2 : J l G X Q 8 311 [.ref 58, .int x1, .int x2, .int x3, .int x4, .int x5, .int x6, .int x7] [] (wr mu 66 (y1).toNatClampNeg y0) n) :
    J l G X Q 8 114 [.ref 58, .int x1, .int x2, .int x3, .int x4, .int x5, .int x6, .int x7] [.int y0, .int y1, .ref 66] mu n := by
  refine J_iast h dX8_doWord_114 rfl (s1) ?_
  refine J_goto (tgt := 311) h dX8_doWord_115 (by decide) ?_
  exact k2
/-! LockstepNetModel.doWords(IIIII)V -/
theorem rX8_doWords_0 {l : Launch} {G : jG} {X : jX} {Q : State → Prop} {n hg nc : Nat} {ret : Option FieldType} {mu : jM} {x1 : Int32} {x2 : Int32} {x3 : Int32} {x4 : Int32} {x5 : Int32} (h : jOk l G X cX8_doWords 7 ret RX8 hg nc)
    (k1 : J l G X Q 7 3 [.ref 58, .int x1, .int x2, .int x3, .int x4, .int x5, .int x1] [] mu n) :
    J l G X Q 7 0 [.ref 58, .int x1, .int x2, .int x3, .int x4, .int x5, .float 0] [] mu n := by
  refine J_iload_n h dX8_doWords_0 rfl rfl ?_
  refine J_istore h dX8_doWords_1 (by decide) rfl ?_
  show J l G X Q 7 3 [.ref 58, .int x1, .int x2, .int x3, .int x4, .int x5, .int x1] [] mu n
  exact k1
theorem rX8_doWords_3 {l : Launch} {G : jG} {X : jX} {Q : State → Prop} {n hg nc : Nat} {ret : Option FieldType} {mu : jM} {x1 : Int32} {x2 : Int32} {x3 : Int32} {x4 : Int32} {x5 : Int32} {x6 : Int32} (h : jOk l G X cX8_doWords 7 ret RX8 hg nc) (s3 : ¬ x2 ≤ x6 → vp_in (4 * x6) 256) (s6 : ¬ x2 ≤ x6 → (mu 65 ((4 * x6)).toNatClampNeg) = 14 → vp_in ((4 * x6) + 1) 256) (s7 : ¬ x2 ≤ x6 → (mu 65 ((4 * x6)).toNatClampNeg) = 14 → vp_in (mu 65 (((4 * x6) + 1)).toNatClampNeg) 8) (s10 : ¬ x2 ≤ x6 → (mu 65 ((4 * x6)).toNatClampNeg) = 14 → (mu 66 ((mu 65 (((4 * x6) + 1)).toNatClampNeg)).toNatClampNeg) = 0 → vp_in ((4 * x6) + 2) 256)
    (k2 : x2 ≤ x6 → J l G X Q 7 87 [.ref 58, .int x1, .int x2, .int x3, .int x4, .int x5, .int x6] [] mu n)
    (k5 : ¬ x2 ≤ x6 → ¬ (mu 65 ((4 * x6)).toNatClampNeg) = 14 → J l G X Q 7 78 [.ref 58, .int x1, .int x2, .int x3, .int x4, .int x5, .int x6] [.int x5, .int x4, .int x3, .int x6, .ref 58] mu n)
    (k9 : ¬ x2 ≤ x6 → (mu 65 ((4 * x6)).toNatClampNeg) = 14 → ¬ (mu 66 ((mu 65 (((4 * x6) + 1)).toNatClampNeg)).toNatClampNeg) = 0 → J l G X Q 7 3 [.ref 58, .int x1, .int x2, .int x3, .int x4, .int x5, .int (x6 + 1)] [] mu n)
    (k11 : ¬ x2 ≤ x6 → (mu 65 ((4 * x6)).toNatClampNeg) = 14 → (mu 66 ((mu 65 (((4 * x6) + 1)).toNatClampNeg)).toNatClampNeg) = 0 → J l G X Q 7 3 [.ref 58, .int x1, .int x2, .int x3, .int x4, .int x5, .int ((x6 + (mu 65 (((4 * x6) + 2)).toNatClampNeg)) + 1)] [] mu n) :
    J l G X Q 7 3 [.ref 58, .int x1, .int x2, .int x3, .int x4, .int x5, .int x6] [] mu n := by
  refine J_iload h dX8_doWords_3 rfl ?_
  refine J_iload_n h dX8_doWords_5 rfl rfl ?_
  refine J_icmp_ge (tgt := 87) h dX8_doWords_6 (by decide) (fun q1 => ?_) (fun q1 => ?_)
  · skip
    exact k2 q1
  · skip
    refine J_aload_n h dX8_doWords_9 rfl rfl ?_
    refine J_getr (k := 10) h dX8_doWords_10 jc8 rfl rfl (by decide) w994 ?_
    refine J_iconst h dX8_doWords_13 ci_4 ?_
    refine J_iload h dX8_doWords_14 rfl ?_
    refine J_imul h dX8_doWords_16 ?_
    refine J_iald h dX8_doWords_17 rfl (s3 q1) ?_
    refine J_bipush h dX8_doWords_18 cb_14 ?_
    refine J_icmp_ne (tgt := 70) h dX8_doWords_20 (by decide) (fun q4 => ?_) (fun q4 => ?_)
    · skip
      refine J_aload_n h dX8_doWords_70 rfl rfl ?_
      refine J_iload h dX8_doWords_71 rfl ?_
      refine J_iload_n h dX8_doWords_73 rfl rfl ?_
      refine J_iload h dX8_doWords_74 rfl ?_
      refine J_iload h dX8_doWords_76 rfl ?_
      exact k5 q1 q4
    · skip
      refine J_aload_n h dX8_doWords_23 rfl rfl ?_
      refine J_getr (k := 11) h dX8_doWords_24 jc8 rfl rfl (by decide) w995 ?_
      refine J_aload_n h dX8_doWords_27 rfl rfl ?_
      refine J_getr (k := 10) h dX8_doWords_28 jc8 rfl rfl (by decide) w994 ?_
      refine J_iconst h dX8_doWords_31 ci_4 ?_
      refine J_iload h dX8_doWords_32 rfl ?_
      refine J_imul h dX8_doWords_34 ?_
      refine J_iconst h dX8_doWords_35 ci_1 ?_
      refine J_iadd h dX8_doWords_36 ?_
      refine J_iald h dX8_doWords_37 rfl (s6 q1 q4) ?_
      refine J_iald h dX8_doWords_38 rfl (s7 q1 q4) ?_
      refine J_if_ne (tgt := 61) h dX8_doWords_39 (by decide) (fun q8 => ?_) (fun q8 => ?_)
      · skip
        refine J_iload h dX8_doWords_61 rfl ?_
        refine J_iconst h dX8_doWords_63 ci_1 ?_
        refine J_iadd h dX8_doWords_64 ?_
        refine J_istore h dX8_doWords_65 (by decide) rfl ?_
        show J l G X Q 7 67 [.ref 58, .int x1, .int x2, .int x3, .int x4, .int x5, .int (x6 + 1)] [] mu n
        refine J_goto (tgt := 3) h dX8_doWords_67 (by decide) ?_
        exact k9 q1 q4 q8
      · skip
        refine J_iload h dX8_doWords_42 rfl ?_
        refine J_aload_n h dX8_doWords_44 rfl rfl ?_
        refine J_getr (k := 10) h dX8_doWords_45 jc8 rfl rfl (by decide) w994 ?_
        refine J_iconst h dX8_doWords_48 ci_4 ?_
        refine J_iload h dX8_doWords_49 rfl ?_
        refine J_imul h dX8_doWords_51 ?_
        refine J_iconst h dX8_doWords_52 ci_2 ?_
        refine J_iadd h dX8_doWords_53 ?_
        refine J_iald h dX8_doWords_54 rfl (s10 q1 q4 q8) ?_
        refine J_iadd h dX8_doWords_55 ?_
        refine J_iconst h dX8_doWords_56 ci_1 ?_
        refine J_iadd h dX8_doWords_57 ?_
        refine J_goto (tgt := 65) h dX8_doWords_58 (by decide) ?_
        refine J_istore h dX8_doWords_65 (by decide) rfl ?_
        show J l G X Q 7 67 [.ref 58, .int x1, .int x2, .int x3, .int x4, .int x5, .int ((x6 + (mu 65 (((4 * x6) + 2)).toNatClampNeg)) + 1)] [] mu n
        refine J_goto (tgt := 3) h dX8_doWords_67 (by decide) ?_
        exact k11 q1 q4 q8
theorem rX8_doWords_78 {l : Launch} {G : jG} {X : jX} {Q : State → Prop} {n hg nc : Nat} {ret : Option FieldType} {mu : jM} {x1 : Int32} {x2 : Int32} {x3 : Int32} {x4 : Int32} {x5 : Int32} {x6 : Int32} {y0 : Int32} {y1 : Int32} {y2 : Int32} {y3 : Int32} {Qc : jM → Prop} {h' : Nat} (h : jOk l G X cX8_doWords 7 ret RX8 hg nc) (hM : jCv l G yX8_doWord cX8_doWord 8 h' (.ref 58 :: [.int y3, .int y2, .int y1, .int y0]) mu Qc) (hh : h' < hg ∧ 8 ≤ 21) (hn : n ≤ nc)
    (kk : ∀ mu', Qc mu' → J l G X Q 7 81 [.ref 58, .int x1, .int x2, .int x3, .int x4, .int x5, .int x6] [] mu' n) :
    J l G X Q 7 78 [.ref 58, .int x1, .int x2, .int x3, .int x4, .int x5, .int x6] [.int y0, .int y1, .int y2, .int y3, .ref 58] mu n :=
  J_callV (As := [.int y3, .int y2, .int y1, .int y0]) (rest := []) h dX8_doWords_78 hM (jgV w1235 w1237 w49 w84 w1238) rfl (ci := 8) rfl rfl nmX8_doWord rfl hh (Nat.le_of_ble_eq_true rfl) rfl kk hn
theorem rX8_doWords_81 {l : Launch} {G : jG} {X : jX} {Q : State → Prop} {n hg nc : Nat} {ret : Option FieldType} {mu : jM} {x1 : Int32} {x2 : Int32} {x3 : Int32} {x4 : Int32} {x5 : Int32} {x6 : Int32} (h : jOk l G X cX8_doWords 7 ret RX8 hg nc)
    (k1 : J l G X Q 7 3 [.ref 58, .int x1, .int x2, .int x3, .int x4, .int x5, .int (x6 + 1)] [] mu n) :
    J l G X Q 7 81 [.ref 58, .int x1, .int x2, .int x3, .int x4, .int x5, .int x6] [] mu n := by
  refine J_iinc h dX8_doWords_81 rfl (cc_1 _) (by decide) rfl ?_
  show J l G X Q 7 84 [.ref 58, .int x1, .int x2, .int x3, .int x4, .int x5, .int (x6 + 1)] [] mu n
  refine J_goto (tgt := 3) h dX8_doWords_84 (by decide) ?_
  exact k1
/-! LockstepNetModel.doProgram(II)V -/
theorem rX8_doProgram_0 {l : Launch} {G : jG} {X : jX} {Q : State → Prop} {n hg nc : Nat} {ret : Option FieldType} {mu : jM} {x1 : Int32} {x2 : Int32} (h : jOk l G X cX8_doProgram 6 ret RX8 hg nc)
    (k1 : J l G X Q 6 2 [.ref 58, .int x1, .int x2, .int 0, .float 0, .float 0] [] mu n) :
    J l G X Q 6 0 [.ref 58, .int x1, .int x2, .float 0, .float 0, .float 0] [] mu n := by
  refine J_iconst h dX8_doProgram_0 ci_0 ?_
  refine J_istore_n h dX8_doProgram_1 rfl (by decide) rfl ?_
  show J l G X Q 6 2 [.ref 58, .int x1, .int x2, .int 0, .float 0, .float 0] [] mu n
  exact k1
theorem rX8_doProgram_2 {l : Launch} {G : jG} {X : jX} {Q : State → Prop} {n hg nc : Nat} {ret : Option FieldType} {mu : jM} {x1 : Int32} {x2 : Int32} {x3 : Int32} (h : jOk l G X cX8_doProgram 6 ret RX8 hg nc) (s3 : ¬ 24 ≤ x3 → vp_in x3 24)
    (k2 : 24 ≤ x3 → J l G X Q 6 23 [.ref 58, .int x1, .int x2, .int 0, .float 0, .float 0] [] mu n)
    (k4 : ¬ 24 ≤ x3 → J l G X Q 6 2 [.ref 58, .int x1, .int x2, .int (x3 + 1), .float 0, .float 0] [] (wr mu 69 (x3).toNatClampNeg (vp_nar .boolean 0)) n) :
    J l G X Q 6 2 [.ref 58, .int x1, .int x2, .int x3, .float 0, .float 0] [] mu n := by
  refine J_iload_n h dX8_doProgram_2 rfl rfl ?_
  refine J_bipush h dX8_doProgram_3 cb_24 ?_
  refine J_icmp_ge (tgt := 21) h dX8_doProgram_5 (by decide) (fun q1 => ?_) (fun q1 => ?_)
  · skip
    refine J_iconst h dX8_doProgram_21 ci_0 ?_
    refine J_istore_n h dX8_doProgram_22 rfl (by decide) rfl ?_
    show J l G X Q 6 23 [.ref 58, .int x1, .int x2, .int 0, .float 0, .float 0] [] mu n
    exact k2 q1
  · skip
    refine J_aload_n h dX8_doProgram_8 rfl rfl ?_
    refine J_getr (k := 14) h dX8_doProgram_9 jc8 rfl rfl (by decide) w998 ?_
    refine J_iload_n h dX8_doProgram_12 rfl rfl ?_
    refine J_iconst h dX8_doProgram_13 ci_0 ?_
    refine J_zast h dX8_doProgram_14 rfl (s3 q1) ?_
    refine J_iinc h dX8_doProgram_15 rfl (cc_1 _) (by decide) rfl ?_
    show J l G X Q 6 18 [.ref 58, .int x1, .int x2, .int (x3 + 1), .float 0, .float 0] [] (wr mu 69 (x3).toNatClampNeg (vp_nar .boolean 0)) n
    refine J_goto (tgt := 2) h dX8_doProgram_18 (by decide) ?_
    exact k4 q1
theorem rX8_doProgram_23 {l : Launch} {G : jG} {X : jX} {Q : State → Prop} {n hg nc : Nat} {ret : Option FieldType} {mu : jM} {x1 : Int32} {x2 : Int32} {x3 : Int32} (h : jOk l G X cX8_doProgram 6 ret RX8 hg nc) (s3 : ¬ (mu 58 9) ≤ x3 → vp_in ((4 * x3) + 2) 256) (s4 : ¬ (mu 58 9) ≤ x3 → vp_in (4 * x3) 256) (s6 : ¬ (mu 58 9) ≤ x3 → ¬ (mu 65 ((4 * x3)).toNatClampNeg) = 15 → vp_in (4 * x3) 256) (s9 : ¬ (mu 58 9) ≤ x3 → ¬ (mu 65 ((4 * x3)).toNatClampNeg) = 15 → (mu 65 ((4 * x3)).toNatClampNeg) = 14 → vp_in ((4 * x3) + 1) 256) (s10 : ¬ (mu 58 9) ≤ x3 → ¬ (mu 65 ((4 * x3)).toNatClampNeg) = 15 → (mu 65 ((4 * x3)).toNatClampNeg) = 14 → vp_in (mu 65 (((4 * x3) + 1)).toNatClampNeg) 8)
    (k2 : (mu 58 9) ≤ x3 → J l G X Q 6 181 [.ref 58, .int x1, .int x2, .int x3, .float 0, .float 0] [] mu n)
    (k8 : ¬ (mu 58 9) ≤ x3 → ¬ (mu 65 ((4 * x3)).toNatClampNeg) = 15 → ¬ (mu 65 ((4 * x3)).toNatClampNeg) = 14 → J l G X Q 6 172 [.ref 58, .int x1, .int x2, .int x3, .int (mu 65 (((4 * x3) + 2)).toNatClampNeg), .float 0] [.int 0, .int x2, .int x1, .int x3, .ref 58] mu n)
    (k12 : ¬ (mu 58 9) ≤ x3 → ¬ (mu 65 ((4 * x3)).toNatClampNeg) = 15 → (mu 65 ((4 * x3)).toNatClampNeg) = 14 → ¬ (mu 66 ((mu 65 (((4 * x3) + 1)).toNatClampNeg)).toNatClampNeg) = 0 → J l G X Q 6 178 [.ref 58, .int x1, .int x2, .int (x3 + 1), .int (mu 65 (((4 * x3) + 2)).toNatClampNeg), .float 0] [] mu n)
    (k13 : ¬ (mu 58 9) ≤ x3 → ¬ (mu 65 ((4 * x3)).toNatClampNeg) = 15 → (mu 65 ((4 * x3)).toNatClampNeg) = 14 → (mu 66 ((mu 65 (((4 * x3) + 1)).toNatClampNeg)).toNatClampNeg) = 0 → J l G X Q 6 178 [.ref 58, .int x1, .int x2, .int ((x3 + (mu 65 (((4 * x3) + 2)).toNatClampNeg)) + 1), .int (mu 65 (((4 * x3) + 2)).toNatClampNeg), .float 0] [] mu n)
    (k14 : ¬ (mu 58 9) ≤ x3 → (mu 65 ((4 * x3)).toNatClampNeg) = 15 → J l G X Q 6 59 [.ref 58, .int x1, .int x2, .int x3, .int (mu 65 (((4 * x3) + 2)).toNatClampNeg), .int 0] [] mu n) :
    J l G X Q 6 23 [.ref 58, .int x1, .int x2, .int x3, .float 0, .float 0] [] mu n := by
  refine J_iload_n h dX8_doProgram_23 rfl rfl ?_
  refine J_aload_n h dX8_doProgram_24 rfl rfl ?_
  refine J_geti (k := 9) h dX8_doProgram_25 jc8 rfl rfl (by decide) w993 ?_
  refine J_icmp_ge (tgt := 181) h dX8_doProgram_28 (by decide) (fun q1 => ?_) (fun q1 => ?_)
  · skip
    exact k2 q1
  · skip
    refine J_aload_n h dX8_doProgram_31 rfl rfl ?_
    refine J_getr (k := 10) h dX8_doProgram_32 jc8 rfl rfl (by decide) w994 ?_
    refine J_iconst h dX8_doProgram_35 ci_4 ?_
    refine J_iload_n h dX8_doProgram_36 rfl rfl ?_
    refine J_imul h dX8_doProgram_37 ?_
    refine J_iconst h dX8_doProgram_38 ci_2 ?_
    refine J_iadd h dX8_doProgram_39 ?_
    refine J_iald h dX8_doProgram_40 rfl (s3 q1) ?_
    refine J_istore h dX8_doProgram_41 (by decide) rfl ?_
    show J l G X Q 6 43 [.ref 58, .int x1, .int x2, .int x3, .int (mu 65 (((4 * x3) + 2)).toNatClampNeg), .float 0] [] mu n
    refine J_aload_n h dX8_doProgram_43 rfl rfl ?_
    refine J_getr (k := 10) h dX8_doProgram_44 jc8 rfl rfl (by decide) w994 ?_
    refine J_iconst h dX8_doProgram_47 ci_4 ?_
    refine J_iload_n h dX8_doProgram_48 rfl rfl ?_
    refine J_imul h dX8_doProgram_49 ?_
    refine J_iald h dX8_doProgram_50 rfl (s4 q1) ?_
    refine J_bipush h dX8_doProgram_51 cb_15 ?_
    refine J_icmp_ne (tgt := 120) h dX8_doProgram_53 (by decide) (fun q5 => ?_) (fun q5 => ?_)
    · skip
      refine J_aload_n h dX8_doProgram_120 rfl rfl ?_
      refine J_getr (k := 10) h dX8_doProgram_121 jc8 rfl rfl (by decide) w994 ?_
      refine J_iconst h dX8_doProgram_124 ci_4 ?_
      refine J_iload_n h dX8_doProgram_125 rfl rfl ?_
      refine J_imul h dX8_doProgram_126 ?_
      refine J_iald h dX8_doProgram_127 rfl (s6 q1 q5) ?_
      refine J_bipush h dX8_doProgram_128 cb_14 ?_
      refine J_icmp_ne (tgt := 167) h dX8_doProgram_130 (by decide) (fun q7 => ?_) (fun q7 => ?_)
      · skip
        refine J_aload_n h dX8_doProgram_167 rfl rfl ?_
        refine J_iload_n h dX8_doProgram_168 rfl rfl ?_
        refine J_iload_n h dX8_doProgram_169 rfl rfl ?_
        refine J_iload_n h dX8_doProgram_170 rfl rfl ?_
        refine J_iconst h dX8_doProgram_171 ci_0 ?_
        exact k8 q1 q5 q7
      · skip
        refine J_aload_n h dX8_doProgram_133 rfl rfl ?_
        refine J_getr (k := 11) h dX8_doProgram_134 jc8 rfl rfl (by decide) w995 ?_
        refine J_aload_n h dX8_doProgram_137 rfl rfl ?_
        refine J_getr (k := 10) h dX8_doProgram_138 jc8 rfl rfl (by decide) w994 ?_
        refine J_iconst h dX8_doProgram_141 ci_4 ?_
        refine J_iload_n h dX8_doProgram_142 rfl rfl ?_
        refine J_imul h dX8_doProgram_143 ?_
        refine J_iconst h dX8_doProgram_144 ci_1 ?_
        refine J_iadd h dX8_doProgram_145 ?_
        refine J_iald h dX8_doProgram_146 rfl (s9 q1 q5 q7) ?_
        refine J_iald h dX8_doProgram_147 rfl (s10 q1 q5 q7) ?_
        refine J_if_ne (tgt := 160) h dX8_doProgram_148 (by decide) (fun q11 => ?_) (fun q11 => ?_)
        · skip
          refine J_iload_n h dX8_doProgram_160 rfl rfl ?_
          refine J_iconst h dX8_doProgram_161 ci_1 ?_
          refine J_iadd h dX8_doProgram_162 ?_
          refine J_istore_n h dX8_doProgram_163 rfl (by decide) rfl ?_
          show J l G X Q 6 164 [.ref 58, .int x1, .int x2, .int (x3 + 1), .int (mu 65 (((4 * x3) + 2)).toNatClampNeg), .float 0] [] mu n
          refine J_goto (tgt := 178) h dX8_doProgram_164 (by decide) ?_
          exact k12 q1 q5 q7 q11
        · skip
          refine J_iload_n h dX8_doProgram_151 rfl rfl ?_
          refine J_iload h dX8_doProgram_152 rfl ?_
          refine J_iadd h dX8_doProgram_154 ?_
          refine J_iconst h dX8_doProgram_155 ci_1 ?_
          refine J_iadd h dX8_doProgram_156 ?_
          refine J_goto (tgt := 163) h dX8_doProgram_157 (by decide) ?_
          refine J_istore_n h dX8_doProgram_163 rfl (by decide) rfl ?_
          show J l G X Q 6 164 [.ref 58, .int x1, .int x2, .int ((x3 + (mu 65 (((4 * x3) + 2)).toNatClampNeg)) + 1), .int (mu 65 (((4 * x3) + 2)).toNatClampNeg), .float 0] [] mu n
          refine J_goto (tgt := 178) h dX8_doProgram_164 (by decide) ?_
          exact k13 q1 q5 q7 q11
    · skip
      refine J_iconst h dX8_doProgram_56 ci_0 ?_
      refine J_istore h dX8_doProgram_57 (by decide) rfl ?_
      show J l G X Q 6 59 [.ref 58, .int x1, .int x2, .int x3, .int (mu 65 (((4 * x3) + 2)).toNatClampNeg), .int 0] [] mu n
      exact k14 q1 q5
theorem rX8_doProgram_172 {l : Launch} {G : jG} {X : jX} {Q : State → Prop} {n hg nc : Nat} {ret : Option FieldType} {mu : jM} {x1 : Int32} {x2 : Int32} {x3 : Int32} {x4 : Int32} {y0 : Int32} {y1 : Int32} {y2 : Int32} {y3 : Int32} {Qc : jM → Prop} {h' : Nat} (h : jOk l G X cX8_doProgram 6 ret RX8 hg nc) (hM : jCv l G yX8_doWord cX8_doWord 8 h' (.ref 58 :: [.int y3, .int y2, .int y1, .int y0]) mu Qc) (hh : h' < hg ∧ 8 ≤ 21) (hn : n ≤ nc)
    (kk : ∀ mu', Qc mu' → J l G X Q 6 175 [.ref 58, .int x1, .int x2, .int x3, .int x4, .float 0] [] mu' n) :
    J l G X Q 6 172 [.ref 58, .int x1, .int x2, .int x3, .int x4, .float 0] [.int y0, .int y1, .int y2, .int y3, .ref 58] mu n :=
  J_callV (As := [.int y3, .int y2, .int y1, .int y0]) (rest := []) h dX8_doProgram_172 hM (jgV w1235 w1237 w49 w84 w1238) rfl (ci := 8) rfl rfl nmX8_doWord rfl hh (Nat.le_of_ble_eq_true rfl) rfl kk hn
theorem rX8_doProgram_178 {l : Launch} {G : jG} {X : jX} {Q : State → Prop} {n hg nc : Nat} {ret : Option FieldType} {mu : jM} {x1 : Int32} {x2 : Int32} {x3 : Int32} {x4 : Int32} (h : jOk l G X cX8_doProgram 6 ret RX8 hg nc)
    (k1 : J l G X Q 6 23 [.ref 58, .int x1, .int x2, .int x3, .int x4, .float 0] [] mu n) :
    J l G X Q 6 178 [.ref 58, .int x1, .int x2, .int x3, .int x4, .float 0] [] mu n := by
  refine J_goto (tgt := 23) h dX8_doProgram_178 (by decide) ?_
  exact k1
theorem rX8_doProgram_59 {l : Launch} {G : jG} {X : jX} {Q : State → Prop} {n hg nc : Nat} {ret : Option FieldType} {mu : jM} {x1 : Int32} {x2 : Int32} {x3 : Int32} {x4 : Int32} {x5 : Int32} (h : jOk l G X cX8_doProgram 6 ret RX8 hg nc) (s1 : vp_in x1 24) (s4 : ¬ (mu 61 (x1).toNatClampNeg) ≤ x5 → vp_in ((4 * x3) + 1) 256) (s5 : ¬ (mu 61 (x1).toNatClampNeg) ≤ x5 → vp_in (mu 65 (((4 * x3) + 1)).toNatClampNeg) 8)
    (k3 : (mu 61 (x1).toNatClampNeg) ≤ x5 → J l G X Q 6 178 [.ref 58, .int x1, .int x2, .int ((x3 + x4) + 1), .int x4, .int x5] [] mu n)
    (k6 : ¬ (mu 61 (x1).toNatClampNeg) ≤ x5 → J l G X Q 6 101 [.ref 58, .int x1, .int x2, .int x3, .int x4, .int x5] [.int x5, .int x2, .int x1, .int ((x3 + x4) + 1), .int (x3 + 1), .ref 58] (wr mu 66 ((mu 65 (((4 * x3) + 1)).toNatClampNeg)).toNatClampNeg x5) n) :
    J l G X Q 6 59 [.ref 58, .int x1, .int x2, .int x3, .int x4, .int x5] [] mu n := by
  refine J_iload h dX8_doProgram_59 rfl ?_
  refine J_aload_n h dX8_doProgram_61 rfl rfl ?_
  refine J_getr (k := 5) h dX8_doProgram_62 jc8 rfl rfl (by decide) w989 ?_
  refine J_iload_n h dX8_doProgram_65 rfl rfl ?_
  refine J_iald h dX8_doProgram_66 rfl (s1) ?_
  refine J_icmp_ge (tgt := 110) h dX8_doProgram_67 (by decide) (fun q2 => ?_) (fun q2 => ?_)
  · skip
    refine J_iload_n h dX8_doProgram_110 rfl rfl ?_
    refine J_iload h dX8_doProgram_111 rfl ?_
    refine J_iadd h dX8_doProgram_113 ?_
    refine J_iconst h dX8_doProgram_114 ci_1 ?_
    refine J_iadd h dX8_doProgram_115 ?_
    refine J_istore_n h dX8_doProgram_116 rfl (by decide) rfl ?_
    show J l G X Q 6 117 [.ref 58, .int x1, .int x2, .int ((x3 + x4) + 1), .int x4, .int x5] [] mu n
    refine J_goto (tgt := 178) h dX8_doProgram_117 (by decide) ?_
    exact k3 q2
  · skip
    refine J_aload_n h dX8_doProgram_70 rfl rfl ?_
    refine J_getr (k := 11) h dX8_doProgram_71 jc8 rfl rfl (by decide) w995 ?_
    refine J_aload_n h dX8_doProgram_74 rfl rfl ?_
    refine J_getr (k := 10) h dX8_doProgram_75 jc8 rfl rfl (by decide) w994 ?_
    refine J_iconst h dX8_doProgram_78 ci_4 ?_
    refine J_iload_n h dX8_doProgram_79 rfl rfl ?_
    refine J_imul h dX8_doProgram_80 ?_
    refine J_iconst h dX8_doProgram_81 ci_1 ?_
    refine J_iadd h dX8_doProgram_82 ?_
    refine J_iald h dX8_doProgram_83 rfl (s4 q2) ?_
    refine J_iload h dX8_doProgram_84 rfl ?_
    refine J_iast h dX8_doProgram_86 rfl (s5 q2) ?_
    refine J_aload_n h dX8_doProgram_87 rfl rfl ?_
    refine J_iload_n h dX8_doProgram_88 rfl rfl ?_
    refine J_iconst h dX8_doProgram_89 ci_1 ?_
    refine J_iadd h dX8_doProgram_90 ?_
    refine J_iload_n h dX8_doProgram_91 rfl rfl ?_
    refine J_iload h dX8_doProgram_92 rfl ?_
    refine J_iadd h dX8_doProgram_94 ?_
    refine J_iconst h dX8_doProgram_95 ci_1 ?_
    refine J_iadd h dX8_doProgram_96 ?_
    refine J_iload_n h dX8_doProgram_97 rfl rfl ?_
    refine J_iload_n h dX8_doProgram_98 rfl rfl ?_
    refine J_iload h dX8_doProgram_99 rfl ?_
    exact k6 q2
theorem rX8_doProgram_175 {l : Launch} {G : jG} {X : jX} {Q : State → Prop} {n hg nc : Nat} {ret : Option FieldType} {mu : jM} {x1 : Int32} {x2 : Int32} {x3 : Int32} {x4 : Int32} (h : jOk l G X cX8_doProgram 6 ret RX8 hg nc)
    (k1 : J l G X Q 6 178 [.ref 58, .int x1, .int x2, .int (x3 + 1), .int x4, .float 0] [] mu n) :
    J l G X Q 6 175 [.ref 58, .int x1, .int x2, .int x3, .int x4, .float 0] [] mu n := by
  refine J_iinc h dX8_doProgram_175 rfl (cc_1 _) (by decide) rfl ?_
  show J l G X Q 6 178 [.ref 58, .int x1, .int x2, .int (x3 + 1), .int x4, .float 0] [] mu n
  exact k1
theorem rX8_doProgram_23b {l : Launch} {G : jG} {X : jX} {Q : State → Prop} {n hg nc : Nat} {ret : Option FieldType} {mu : jM} {x1 : Int32} {x2 : Int32} {x3 : Int32} {x4 : Int32} (h : jOk l G X cX8_doProgram 6 ret RX8 hg nc) (s3 : ¬ (mu 58 9) ≤ x3 → vp_in ((4 * x3) + 2) 256) (s4 : ¬ (mu 58 9) ≤ x3 → vp_in (4 * x3) 256) (s6 : ¬ (mu 58 9) ≤ x3 → ¬ (mu 65 ((4 * x3)).toNatClampNeg) = 15 → vp_in (4 * x3) 256) (s9 : ¬ (mu 58 9) ≤ x3 → ¬ (mu 65 ((4 * x3)).toNatClampNeg) = 15 → (mu 65 ((4 * x3)).toNatClampNeg) = 14 → vp_in ((4 * x3) + 1) 256) (s10 : ¬ (mu 58 9) ≤ x3 → ¬ (mu 65 ((4 * x3)).toNatClampNeg) = 15 → (mu 65 ((4 * x3)).toNatClampNeg) = 14 → vp_in (mu 65 (((4 * x3) + 1)).toNatClampNeg) 8)
    (k2 : (mu 58 9) ≤ x3 → J l G X Q 6 181 [.ref 58, .int x1, .int x2, .int x3, .int x4, .float 0] [] mu n)
    (k8 : ¬ (mu 58 9) ≤ x3 → ¬ (mu 65 ((4 * x3)).toNatClampNeg) = 15 → ¬ (mu 65 ((4 * x3)).toNatClampNeg) = 14 → J l G X Q 6 172 [.ref 58, .int x1, .int x2, .int x3, .int (mu 65 (((4 * x3) + 2)).toNatClampNeg), .float 0] [.int 0, .int x2, .int x1, .int x3, .ref 58] mu n)
    (k12 : ¬ (mu 58 9) ≤ x3 → ¬ (mu 65 ((4 * x3)).toNatClampNeg) = 15 → (mu 65 ((4 * x3)).toNatClampNeg) = 14 → ¬ (mu 66 ((mu 65 (((4 * x3) + 1)).toNatClampNeg)).toNatClampNeg) = 0 → J l G X Q 6 178 [.ref 58, .int x1, .int x2, .int (x3 + 1), .int (mu 65 (((4 * x3) + 2)).toNatClampNeg), .float 0] [] mu n)
    (k13 : ¬ (mu 58 9) ≤ x3 → ¬ (mu 65 ((4 * x3)).toNatClampNeg) = 15 → (mu 65 ((4 * x3)).toNatClampNeg) = 14 → (mu 66 ((mu 65 (((4 * x3) + 1)).toNatClampNeg)).toNatClampNeg) = 0 → J l G X Q 6 178 [.ref 58, .int x1, .int x2, .int ((x3 + (mu 65 (((4 * x3) + 2)).toNatClampNeg)) + 1), .int (mu 65 (((4 * x3) + 2)).toNatClampNeg), .float 0] [] mu n)
    (k14 : ¬ (mu 58 9) ≤ x3 → (mu 65 ((4 * x3)).toNatClampNeg) = 15 → J l G X Q 6 59 [.ref 58, .int x1, .int x2, .int x3, .int (mu 65 (((4 * x3) + 2)).toNatClampNeg), .int 0] [] mu n) :
    J l G X Q 6 23 [.ref 58, .int x1, .int x2, .int x3, .int x4, .float 0] [] mu n := by
  refine J_iload_n h dX8_doProgram_23 rfl rfl ?_
  refine J_aload_n h dX8_doProgram_24 rfl rfl ?_
  refine J_geti (k := 9) h dX8_doProgram_25 jc8 rfl rfl (by decide) w993 ?_
  refine J_icmp_ge (tgt := 181) h dX8_doProgram_28 (by decide) (fun q1 => ?_) (fun q1 => ?_)
  · skip
    exact k2 q1
  · skip
    refine J_aload_n h dX8_doProgram_31 rfl rfl ?_
    refine J_getr (k := 10) h dX8_doProgram_32 jc8 rfl rfl (by decide) w994 ?_
    refine J_iconst h dX8_doProgram_35 ci_4 ?_
    refine J_iload_n h dX8_doProgram_36 rfl rfl ?_
    refine J_imul h dX8_doProgram_37 ?_
    refine J_iconst h dX8_doProgram_38 ci_2 ?_
    refine J_iadd h dX8_doProgram_39 ?_
    refine J_iald h dX8_doProgram_40 rfl (s3 q1) ?_
    refine J_istore h dX8_doProgram_41 (by decide) rfl ?_
    show J l G X Q 6 43 [.ref 58, .int x1, .int x2, .int x3, .int (mu 65 (((4 * x3) + 2)).toNatClampNeg), .float 0] [] mu n
    refine J_aload_n h dX8_doProgram_43 rfl rfl ?_
    refine J_getr (k := 10) h dX8_doProgram_44 jc8 rfl rfl (by decide) w994 ?_
    refine J_iconst h dX8_doProgram_47 ci_4 ?_
    refine J_iload_n h dX8_doProgram_48 rfl rfl ?_
    refine J_imul h dX8_doProgram_49 ?_
    refine J_iald h dX8_doProgram_50 rfl (s4 q1) ?_
    refine J_bipush h dX8_doProgram_51 cb_15 ?_
    refine J_icmp_ne (tgt := 120) h dX8_doProgram_53 (by decide) (fun q5 => ?_) (fun q5 => ?_)
    · skip
      refine J_aload_n h dX8_doProgram_120 rfl rfl ?_
      refine J_getr (k := 10) h dX8_doProgram_121 jc8 rfl rfl (by decide) w994 ?_
      refine J_iconst h dX8_doProgram_124 ci_4 ?_
      refine J_iload_n h dX8_doProgram_125 rfl rfl ?_
      refine J_imul h dX8_doProgram_126 ?_
      refine J_iald h dX8_doProgram_127 rfl (s6 q1 q5) ?_
      refine J_bipush h dX8_doProgram_128 cb_14 ?_
      refine J_icmp_ne (tgt := 167) h dX8_doProgram_130 (by decide) (fun q7 => ?_) (fun q7 => ?_)
      · skip
        refine J_aload_n h dX8_doProgram_167 rfl rfl ?_
        refine J_iload_n h dX8_doProgram_168 rfl rfl ?_
        refine J_iload_n h dX8_doProgram_169 rfl rfl ?_
        refine J_iload_n h dX8_doProgram_170 rfl rfl ?_
        refine J_iconst h dX8_doProgram_171 ci_0 ?_
        exact k8 q1 q5 q7
      · skip
        refine J_aload_n h dX8_doProgram_133 rfl rfl ?_
        refine J_getr (k := 11) h dX8_doProgram_134 jc8 rfl rfl (by decide) w995 ?_
        refine J_aload_n h dX8_doProgram_137 rfl rfl ?_
        refine J_getr (k := 10) h dX8_doProgram_138 jc8 rfl rfl (by decide) w994 ?_
        refine J_iconst h dX8_doProgram_141 ci_4 ?_
        refine J_iload_n h dX8_doProgram_142 rfl rfl ?_
        refine J_imul h dX8_doProgram_143 ?_
        refine J_iconst h dX8_doProgram_144 ci_1 ?_
        refine J_iadd h dX8_doProgram_145 ?_
        refine J_iald h dX8_doProgram_146 rfl (s9 q1 q5 q7) ?_
        refine J_iald h dX8_doProgram_147 rfl (s10 q1 q5 q7) ?_
        refine J_if_ne (tgt := 160) h dX8_doProgram_148 (by decide) (fun q11 => ?_) (fun q11 => ?_)
        · skip
          refine J_iload_n h dX8_doProgram_160 rfl rfl ?_
          refine J_iconst h dX8_doProgram_161 ci_1 ?_
          refine J_iadd h dX8_doProgram_162 ?_
          refine J_istore_n h dX8_doProgram_163 rfl (by decide) rfl ?_
          show J l G X Q 6 164 [.ref 58, .int x1, .int x2, .int (x3 + 1), .int (mu 65 (((4 * x3) + 2)).toNatClampNeg), .float 0] [] mu n
          refine J_goto (tgt := 178) h dX8_doProgram_164 (by decide) ?_
          exact k12 q1 q5 q7 q11
        · skip
          refine J_iload_n h dX8_doProgram_151 rfl rfl ?_
          refine J_iload h dX8_doProgram_152 rfl ?_
          refine J_iadd h dX8_doProgram_154 ?_
          refine J_iconst h dX8_doProgram_155 ci_1 ?_
          refine J_iadd h dX8_doProgram_156 ?_
          refine J_goto (tgt := 163) h dX8_doProgram_157 (by decide) ?_
          refine J_istore_n h dX8_doProgram_163 rfl (by decide) rfl ?_
          show J l G X Q 6 164 [.ref 58, .int x1, .int x2, .int ((x3 + (mu 65 (((4 * x3) + 2)).toNatClampNeg)) + 1), .int (mu 65 (((4 * x3) + 2)).toNatClampNeg), .float 0] [] mu n
          refine J_goto (tgt := 178) h dX8_doProgram_164 (by decide) ?_
          exact k13 q1 q5 q7 q11
    · skip
      refine J_iconst h dX8_doProgram_56 ci_0 ?_
      refine J_istore h dX8_doProgram_57 (by decide) rfl ?_
      show J l G X Q 6 59 [.ref 58, .int x1, .int x2, .int x3, .int (mu 65 (((4 * x3) + 2)).toNatClampNeg), .int 0] [] mu n
      exact k14 q1 q5
theorem rX8_doProgram_178b {l : Launch} {G : jG} {X : jX} {Q : State → Prop} {n hg nc : Nat} {ret : Option FieldType} {mu : jM} {x1 : Int32} {x2 : Int32} {x3 : Int32} {x4 : Int32} {x5 : Int32} (h : jOk l G X cX8_doProgram 6 ret RX8 hg nc)
    (k1 : J l G X Q 6 23 [.ref 58, .int x1, .int x2, .int x3, .int x4, .int x5] [] mu n) :
    J l G X Q 6 178 [.ref 58, .int x1, .int x2, .int x3, .int x4, .int x5] [] mu n := by
  refine J_goto (tgt := 23) h dX8_doProgram_178 (by decide) ?_
  exact k1
theorem rX8_doProgram_101 {l : Launch} {G : jG} {X : jX} {Q : State → Prop} {n hg nc : Nat} {ret : Option FieldType} {mu : jM} {x1 : Int32} {x2 : Int32} {x3 : Int32} {x4 : Int32} {x5 : Int32} {y0 : Int32} {y1 : Int32} {y2 : Int32} {y3 : Int32} {y4 : Int32} {Qc : jM → Prop} {h' : Nat} (h : jOk l G X cX8_doProgram 6 ret RX8 hg nc) (hM : jCv l G yX8_doWords cX8_doWords 7 h' (.ref 58 :: [.int y4, .int y3, .int y2, .int y1, .int y0]) mu Qc) (hh : h' < hg ∧ 7 ≤ 21) (hn : n ≤ nc)
    (kk : ∀ mu', Qc mu' → J l G X Q 6 104 [.ref 58, .int x1, .int x2, .int x3, .int x4, .int x5] [] mu' n) :
    J l G X Q 6 101 [.ref 58, .int x1, .int x2, .int x3, .int x4, .int x5] [.int y0, .int y1, .int y2, .int y3, .int y4, .ref 58] mu n :=
  J_callV (As := [.int y4, .int y3, .int y2, .int y1, .int y0]) (rest := []) h dX8_doProgram_101 hM (jgV w1231 w1233 w48 w84 w1234) rfl (ci := 8) rfl rfl nmX8_doWords rfl hh (Nat.le_of_ble_eq_true rfl) rfl kk hn
theorem rX8_doProgram_23c {l : Launch} {G : jG} {X : jX} {Q : State → Prop} {n hg nc : Nat} {ret : Option FieldType} {mu : jM} {x1 : Int32} {x2 : Int32} {x3 : Int32} {x4 : Int32} {x5 : Int32} (h : jOk l G X cX8_doProgram 6 ret RX8 hg nc) (s3 : ¬ (mu 58 9) ≤ x3 → vp_in ((4 * x3) + 2) 256) (s4 : ¬ (mu 58 9) ≤ x3 → vp_in (4 * x3) 256) (s6 : ¬ (mu 58 9) ≤ x3 → ¬ (mu 65 ((4 * x3)).toNatClampNeg) = 15 → vp_in (4 * x3) 256) (s9 : ¬ (mu 58 9) ≤ x3 → ¬ (mu 65 ((4 * x3)).toNatClampNeg) = 15 → (mu 65 ((4 * x3)).toNatClampNeg) = 14 → vp_in ((4 * x3) + 1) 256) (s10 : ¬ (mu 58 9) ≤ x3 → ¬ (mu 65 ((4 * x3)).toNatClampNeg) = 15 → (mu 65 ((4 * x3)).toNatClampNeg) = 14 → vp_in (mu 65 (((4 * x3) + 1)).toNatClampNeg) 8)
    (k2 : (mu 58 9) ≤ x3 → J l G X Q 6 181 [.ref 58, .int x1, .int x2, .int x3, .int x4, .int x5] [] mu n)
    (k8 : ¬ (mu 58 9) ≤ x3 → ¬ (mu 65 ((4 * x3)).toNatClampNeg) = 15 → ¬ (mu 65 ((4 * x3)).toNatClampNeg) = 14 → J l G X Q 6 172 [.ref 58, .int x1, .int x2, .int x3, .int (mu 65 (((4 * x3) + 2)).toNatClampNeg), .int x5] [.int 0, .int x2, .int x1, .int x3, .ref 58] mu n)
    (k12 : ¬ (mu 58 9) ≤ x3 → ¬ (mu 65 ((4 * x3)).toNatClampNeg) = 15 → (mu 65 ((4 * x3)).toNatClampNeg) = 14 → ¬ (mu 66 ((mu 65 (((4 * x3) + 1)).toNatClampNeg)).toNatClampNeg) = 0 → J l G X Q 6 178 [.ref 58, .int x1, .int x2, .int (x3 + 1), .int (mu 65 (((4 * x3) + 2)).toNatClampNeg), .int x5] [] mu n)
    (k13 : ¬ (mu 58 9) ≤ x3 → ¬ (mu 65 ((4 * x3)).toNatClampNeg) = 15 → (mu 65 ((4 * x3)).toNatClampNeg) = 14 → (mu 66 ((mu 65 (((4 * x3) + 1)).toNatClampNeg)).toNatClampNeg) = 0 → J l G X Q 6 178 [.ref 58, .int x1, .int x2, .int ((x3 + (mu 65 (((4 * x3) + 2)).toNatClampNeg)) + 1), .int (mu 65 (((4 * x3) + 2)).toNatClampNeg), .int x5] [] mu n)
    (k14 : ¬ (mu 58 9) ≤ x3 → (mu 65 ((4 * x3)).toNatClampNeg) = 15 → J l G X Q 6 59 [.ref 58, .int x1, .int x2, .int x3, .int (mu 65 (((4 * x3) + 2)).toNatClampNeg), .int 0] [] mu n) :
    J l G X Q 6 23 [.ref 58, .int x1, .int x2, .int x3, .int x4, .int x5] [] mu n := by
  refine J_iload_n h dX8_doProgram_23 rfl rfl ?_
  refine J_aload_n h dX8_doProgram_24 rfl rfl ?_
  refine J_geti (k := 9) h dX8_doProgram_25 jc8 rfl rfl (by decide) w993 ?_
  refine J_icmp_ge (tgt := 181) h dX8_doProgram_28 (by decide) (fun q1 => ?_) (fun q1 => ?_)
  · skip
    exact k2 q1
  · skip
    refine J_aload_n h dX8_doProgram_31 rfl rfl ?_
    refine J_getr (k := 10) h dX8_doProgram_32 jc8 rfl rfl (by decide) w994 ?_
    refine J_iconst h dX8_doProgram_35 ci_4 ?_
    refine J_iload_n h dX8_doProgram_36 rfl rfl ?_
    refine J_imul h dX8_doProgram_37 ?_
    refine J_iconst h dX8_doProgram_38 ci_2 ?_
    refine J_iadd h dX8_doProgram_39 ?_
    refine J_iald h dX8_doProgram_40 rfl (s3 q1) ?_
    refine J_istore h dX8_doProgram_41 (by decide) rfl ?_
    show J l G X Q 6 43 [.ref 58, .int x1, .int x2, .int x3, .int (mu 65 (((4 * x3) + 2)).toNatClampNeg), .int x5] [] mu n
    refine J_aload_n h dX8_doProgram_43 rfl rfl ?_
    refine J_getr (k := 10) h dX8_doProgram_44 jc8 rfl rfl (by decide) w994 ?_
    refine J_iconst h dX8_doProgram_47 ci_4 ?_
    refine J_iload_n h dX8_doProgram_48 rfl rfl ?_
    refine J_imul h dX8_doProgram_49 ?_
    refine J_iald h dX8_doProgram_50 rfl (s4 q1) ?_
    refine J_bipush h dX8_doProgram_51 cb_15 ?_
    refine J_icmp_ne (tgt := 120) h dX8_doProgram_53 (by decide) (fun q5 => ?_) (fun q5 => ?_)
    · skip
      refine J_aload_n h dX8_doProgram_120 rfl rfl ?_
      refine J_getr (k := 10) h dX8_doProgram_121 jc8 rfl rfl (by decide) w994 ?_
      refine J_iconst h dX8_doProgram_124 ci_4 ?_
      refine J_iload_n h dX8_doProgram_125 rfl rfl ?_
      refine J_imul h dX8_doProgram_126 ?_
      refine J_iald h dX8_doProgram_127 rfl (s6 q1 q5) ?_
      refine J_bipush h dX8_doProgram_128 cb_14 ?_
      refine J_icmp_ne (tgt := 167) h dX8_doProgram_130 (by decide) (fun q7 => ?_) (fun q7 => ?_)
      · skip
        refine J_aload_n h dX8_doProgram_167 rfl rfl ?_
        refine J_iload_n h dX8_doProgram_168 rfl rfl ?_
        refine J_iload_n h dX8_doProgram_169 rfl rfl ?_
        refine J_iload_n h dX8_doProgram_170 rfl rfl ?_
        refine J_iconst h dX8_doProgram_171 ci_0 ?_
        exact k8 q1 q5 q7
      · skip
        refine J_aload_n h dX8_doProgram_133 rfl rfl ?_
        refine J_getr (k := 11) h dX8_doProgram_134 jc8 rfl rfl (by decide) w995 ?_
        refine J_aload_n h dX8_doProgram_137 rfl rfl ?_
        refine J_getr (k := 10) h dX8_doProgram_138 jc8 rfl rfl (by decide) w994 ?_
        refine J_iconst h dX8_doProgram_141 ci_4 ?_
        refine J_iload_n h dX8_doProgram_142 rfl rfl ?_
        refine J_imul h dX8_doProgram_143 ?_
        refine J_iconst h dX8_doProgram_144 ci_1 ?_
        refine J_iadd h dX8_doProgram_145 ?_
        refine J_iald h dX8_doProgram_146 rfl (s9 q1 q5 q7) ?_
        refine J_iald h dX8_doProgram_147 rfl (s10 q1 q5 q7) ?_
        refine J_if_ne (tgt := 160) h dX8_doProgram_148 (by decide) (fun q11 => ?_) (fun q11 => ?_)
        · skip
          refine J_iload_n h dX8_doProgram_160 rfl rfl ?_
          refine J_iconst h dX8_doProgram_161 ci_1 ?_
          refine J_iadd h dX8_doProgram_162 ?_
          refine J_istore_n h dX8_doProgram_163 rfl (by decide) rfl ?_
          show J l G X Q 6 164 [.ref 58, .int x1, .int x2, .int (x3 + 1), .int (mu 65 (((4 * x3) + 2)).toNatClampNeg), .int x5] [] mu n
          refine J_goto (tgt := 178) h dX8_doProgram_164 (by decide) ?_
          exact k12 q1 q5 q7 q11
        · skip
          refine J_iload_n h dX8_doProgram_151 rfl rfl ?_
          refine J_iload h dX8_doProgram_152 rfl ?_
          refine J_iadd h dX8_doProgram_154 ?_
          refine J_iconst h dX8_doProgram_155 ci_1 ?_
          refine J_iadd h dX8_doProgram_156 ?_
          refine J_goto (tgt := 163) h dX8_doProgram_157 (by decide) ?_
          refine J_istore_n h dX8_doProgram_163 rfl (by decide) rfl ?_
          show J l G X Q 6 164 [.ref 58, .int x1, .int x2, .int ((x3 + (mu 65 (((4 * x3) + 2)).toNatClampNeg)) + 1), .int (mu 65 (((4 * x3) + 2)).toNatClampNeg), .int x5] [] mu n
          refine J_goto (tgt := 178) h dX8_doProgram_164 (by decide) ?_
          exact k13 q1 q5 q7 q11
    · skip
      refine J_iconst h dX8_doProgram_56 ci_0 ?_
      refine J_istore h dX8_doProgram_57 (by decide) rfl ?_
      show J l G X Q 6 59 [.ref 58, .int x1, .int x2, .int x3, .int (mu 65 (((4 * x3) + 2)).toNatClampNeg), .int 0] [] mu n
      exact k14 q1 q5
theorem rX8_doProgram_104 {l : Launch} {G : jG} {X : jX} {Q : State → Prop} {n hg nc : Nat} {ret : Option FieldType} {mu : jM} {x1 : Int32} {x2 : Int32} {x3 : Int32} {x4 : Int32} {x5 : Int32} (h : jOk l G X cX8_doProgram 6 ret RX8 hg nc)
    (k1 : J l G X Q 6 59 [.ref 58, .int x1, .int x2, .int x3, .int x4, .int (x5 + 1)] [] mu n) :
    J l G X Q 6 104 [.ref 58, .int x1, .int x2, .int x3, .int x4, .int x5] [] mu n := by
  refine J_iinc h dX8_doProgram_104 rfl (cc_1 _) (by decide) rfl ?_
  show J l G X Q 6 107 [.ref 58, .int x1, .int x2, .int x3, .int x4, .int (x5 + 1)] [] mu n
  refine J_goto (tgt := 59) h dX8_doProgram_107 (by decide) ?_
  exact k1
theorem rX8_doProgram_172b {l : Launch} {G : jG} {X : jX} {Q : State → Prop} {n hg nc : Nat} {ret : Option FieldType} {mu : jM} {x1 : Int32} {x2 : Int32} {x3 : Int32} {x4 : Int32} {x5 : Int32} {y0 : Int32} {y1 : Int32} {y2 : Int32} {y3 : Int32} {Qc : jM → Prop} {h' : Nat} (h : jOk l G X cX8_doProgram 6 ret RX8 hg nc) (hM : jCv l G yX8_doWord cX8_doWord 8 h' (.ref 58 :: [.int y3, .int y2, .int y1, .int y0]) mu Qc) (hh : h' < hg ∧ 8 ≤ 21) (hn : n ≤ nc)
    (kk : ∀ mu', Qc mu' → J l G X Q 6 175 [.ref 58, .int x1, .int x2, .int x3, .int x4, .int x5] [] mu' n) :
    J l G X Q 6 172 [.ref 58, .int x1, .int x2, .int x3, .int x4, .int x5] [.int y0, .int y1, .int y2, .int y3, .ref 58] mu n :=
  J_callV (As := [.int y3, .int y2, .int y1, .int y0]) (rest := []) h dX8_doProgram_172 hM (jgV w1235 w1237 w49 w84 w1238) rfl (ci := 8) rfl rfl nmX8_doWord rfl hh (Nat.le_of_ble_eq_true rfl) rfl kk hn
theorem rX8_doProgram_175b {l : Launch} {G : jG} {X : jX} {Q : State → Prop} {n hg nc : Nat} {ret : Option FieldType} {mu : jM} {x1 : Int32} {x2 : Int32} {x3 : Int32} {x4 : Int32} {x5 : Int32} (h : jOk l G X cX8_doProgram 6 ret RX8 hg nc)
    (k1 : J l G X Q 6 178 [.ref 58, .int x1, .int x2, .int (x3 + 1), .int x4, .int x5] [] mu n) :
    J l G X Q 6 175 [.ref 58, .int x1, .int x2, .int x3, .int x4, .int x5] [] mu n := by
  refine J_iinc h dX8_doProgram_175 rfl (cc_1 _) (by decide) rfl ?_
  show J l G X Q 6 178 [.ref 58, .int x1, .int x2, .int (x3 + 1), .int x4, .int x5] [] mu n
  exact k1
/-! LockstepNetModel.takeIn(II)V -/
theorem rX8_takeIn_0 {l : Launch} {G : jG} {X : jX} {Q : State → Prop} {n hg nc : Nat} {ret : Option FieldType} {mu : jM} {x1 : Int32} {x2 : Int32} (h : jOk l G X cX8_takeIn 5 ret RX8 hg nc)
    (k1 : J l G X Q 5 2 [.ref 58, .int x1, .int x2, .int 0, .float 0] [] mu n) :
    J l G X Q 5 0 [.ref 58, .int x1, .int x2, .float 0, .float 0] [] mu n := by
  refine J_iconst h dX8_takeIn_0 ci_0 ?_
  refine J_istore_n h dX8_takeIn_1 rfl (by decide) rfl ?_
  show J l G X Q 5 2 [.ref 58, .int x1, .int x2, .int 0, .float 0] [] mu n
  exact k1
theorem rX8_takeIn_2 {l : Launch} {G : jG} {X : jX} {Q : State → Prop} {n hg nc : Nat} {ret : Option FieldType} {mu : jM} {x1 : Int32} {x2 : Int32} {x3 : Int32} (h : jOk l G X cX8_takeIn 5 ret RX8 hg nc) (s1 : vp_in x1 24) (s4 : ¬ (mu 61 (x1).toNatClampNeg) ≤ x3 → vp_in ((24 * x1) + x3) 576)
    (k3 : (mu 61 (x1).toNatClampNeg) ≤ x3 → J l G X Q 5 67 [.ref 58, .int x1, .int x2, .int x3, .float 0] [] mu n)
    (k5 : ¬ (mu 61 (x1).toNatClampNeg) ≤ x3 → J l G X Q 5 29 [.ref 58, .int x1, .int x2, .int x3, .float 0] [.int x1, .int (mu 62 (((24 * x1) + x3)).toNatClampNeg), .ref 58, .int (120 * x2)] mu n) :
    J l G X Q 5 2 [.ref 58, .int x1, .int x2, .int x3, .float 0] [] mu n := by
  refine J_iload_n h dX8_takeIn_2 rfl rfl ?_
  refine J_aload_n h dX8_takeIn_3 rfl rfl ?_
  refine J_getr (k := 5) h dX8_takeIn_4 jc8 rfl rfl (by decide) w989 ?_
  refine J_iload_n h dX8_takeIn_7 rfl rfl ?_
  refine J_iald h dX8_takeIn_8 rfl (s1) ?_
  refine J_icmp_ge (tgt := 67) h dX8_takeIn_9 (by decide) (fun q2 => ?_) (fun q2 => ?_)
  · skip
    exact k3 q2
  · skip
    refine J_bipush h dX8_takeIn_12 cb_120 ?_
    refine J_iload_n h dX8_takeIn_14 rfl rfl ?_
    refine J_imul h dX8_takeIn_15 ?_
    refine J_aload_n h dX8_takeIn_16 rfl rfl ?_
    refine J_aload_n h dX8_takeIn_17 rfl rfl ?_
    refine J_getr (k := 6) h dX8_takeIn_18 jc8 rfl rfl (by decide) w990 ?_
    refine J_bipush h dX8_takeIn_21 cb_24 ?_
    refine J_iload_n h dX8_takeIn_23 rfl rfl ?_
    refine J_imul h dX8_takeIn_24 ?_
    refine J_iload_n h dX8_takeIn_25 rfl rfl ?_
    refine J_iadd h dX8_takeIn_26 ?_
    refine J_iald h dX8_takeIn_27 rfl (s4 q2) ?_
    refine J_iload_n h dX8_takeIn_28 rfl rfl ?_
    exact k5 q2
theorem rX8_takeIn_29 {l : Launch} {G : jG} {X : jX} {Q : State → Prop} {n hg nc : Nat} {ret : Option FieldType} {mu : jM} {x1 : Int32} {x2 : Int32} {x3 : Int32} {y0 : Int32} {y1 : Int32} {y3 : Int32} {Qc : Int32 → jM → Prop} {h' : Nat} (h : jOk l G X cX8_takeIn 5 ret RX8 hg nc) (hM : jCi l G yX8_towards cX8_towards 3 h' (some .int) (.ref 58 :: [.int y1, .int y0]) mu Qc) (hh : h' < hg ∧ 3 ≤ 21) (hn : n ≤ nc)
    (kk : ∀ v mu', Qc v mu' → J l G X Q 5 32 [.ref 58, .int x1, .int x2, .int x3, .float 0] (.int v :: [.int y3]) mu' n) :
    J l G X Q 5 29 [.ref 58, .int x1, .int x2, .int x3, .float 0] [.int y0, .int y1, .ref 58, .int y3] mu n :=
  J_callVi (As := [.int y1, .int y0]) (rest := [.int y3]) h dX8_takeIn_29 hM (jgV w1223 w1225 w46 w84 w1226) rfl (ci := 8) rfl rfl nmX8_towards rfl hh (Nat.le_of_ble_eq_true rfl) rfl kk hn
theorem rX8_takeIn_32 {l : Launch} {G : jG} {X : jX} {Q : State → Prop} {n hg nc : Nat} {ret : Option FieldType} {mu : jM} {x1 : Int32} {x2 : Int32} {x3 : Int32} {y0 : Int32} {y1 : Int32} (h : jOk l G X cX8_takeIn 5 ret RX8 hg nc) (s1 : vp_in (y1 + y0) 240) (s2 : vp_in x3 24) (s3 : vp_in (y1 + y0) 240) (s4 : vp_in x3 24)
    (k5 : J l G X Q 5 2 [.ref 58, .int x1, .int x2, .int (x3 + 1), .int (y1 + y0)] [] (wr (wr mu 67 (x3).toNatClampNeg (vp_nar .boolean (mu 71 ((y1 + y0)).toNatClampNeg))) 68 (x3).toNatClampNeg (mu 72 ((y1 + y0)).toNatClampNeg)) n) :
    J l G X Q 5 32 [.ref 58, .int x1, .int x2, .int x3, .float 0] [.int y0, .int y1] mu n := by
  refine J_iadd h dX8_takeIn_32 ?_
  refine J_istore h dX8_takeIn_33 (by decide) rfl ?_
  show J l G X Q 5 35 [.ref 58, .int x1, .int x2, .int x3, .int (y1 + y0)] [] mu n
  refine J_aload_n h dX8_takeIn_35 rfl rfl ?_
  refine J_getr (k := 12) h dX8_takeIn_36 jc8 rfl rfl (by decide) w996 ?_
  refine J_iload_n h dX8_takeIn_39 rfl rfl ?_
  refine J_aload_n h dX8_takeIn_40 rfl rfl ?_
  refine J_getr (k := 16) h dX8_takeIn_41 jc8 rfl rfl (by decide) w1000 ?_
  refine J_iload h dX8_takeIn_44 rfl ?_
  refine J_zald h dX8_takeIn_46 rfl (s1) ?_
  refine J_zast h dX8_takeIn_47 rfl (s2) ?_
  refine J_aload_n h dX8_takeIn_48 rfl rfl ?_
  refine J_getr (k := 13) h dX8_takeIn_49 jc8 rfl rfl (by decide) w997 ?_
  refine J_iload_n h dX8_takeIn_52 rfl rfl ?_
  refine J_aload_n h dX8_takeIn_53 rfl rfl ?_
  refine J_getr (k := 17) h dX8_takeIn_54 jc8 rfl rfl (by decide) w1001 ?_
  refine J_iload h dX8_takeIn_57 rfl ?_
  refine J_iald h dX8_takeIn_59 rfl (s3) ?_
  refine J_iast h dX8_takeIn_60 rfl (s4) ?_
  refine J_iinc h dX8_takeIn_61 rfl (cc_1 _) (by decide) rfl ?_
  show J l G X Q 5 64 [.ref 58, .int x1, .int x2, .int (x3 + 1), .int (y1 + y0)] [] (wr (wr mu 67 (x3).toNatClampNeg (vp_nar .boolean (mu 71 ((y1 + y0)).toNatClampNeg))) 68 (x3).toNatClampNeg (mu 72 ((y1 + y0)).toNatClampNeg)) n
  refine J_goto (tgt := 2) h dX8_takeIn_64 (by decide) ?_
  exact k5
theorem rX8_takeIn_2b {l : Launch} {G : jG} {X : jX} {Q : State → Prop} {n hg nc : Nat} {ret : Option FieldType} {mu : jM} {x1 : Int32} {x2 : Int32} {x3 : Int32} {x4 : Int32} (h : jOk l G X cX8_takeIn 5 ret RX8 hg nc) (s1 : vp_in x1 24) (s4 : ¬ (mu 61 (x1).toNatClampNeg) ≤ x3 → vp_in ((24 * x1) + x3) 576)
    (k3 : (mu 61 (x1).toNatClampNeg) ≤ x3 → J l G X Q 5 67 [.ref 58, .int x1, .int x2, .int x3, .int x4] [] mu n)
    (k5 : ¬ (mu 61 (x1).toNatClampNeg) ≤ x3 → J l G X Q 5 29 [.ref 58, .int x1, .int x2, .int x3, .int x4] [.int x1, .int (mu 62 (((24 * x1) + x3)).toNatClampNeg), .ref 58, .int (120 * x2)] mu n) :
    J l G X Q 5 2 [.ref 58, .int x1, .int x2, .int x3, .int x4] [] mu n := by
  refine J_iload_n h dX8_takeIn_2 rfl rfl ?_
  refine J_aload_n h dX8_takeIn_3 rfl rfl ?_
  refine J_getr (k := 5) h dX8_takeIn_4 jc8 rfl rfl (by decide) w989 ?_
  refine J_iload_n h dX8_takeIn_7 rfl rfl ?_
  refine J_iald h dX8_takeIn_8 rfl (s1) ?_
  refine J_icmp_ge (tgt := 67) h dX8_takeIn_9 (by decide) (fun q2 => ?_) (fun q2 => ?_)
  · skip
    exact k3 q2
  · skip
    refine J_bipush h dX8_takeIn_12 cb_120 ?_
    refine J_iload_n h dX8_takeIn_14 rfl rfl ?_
    refine J_imul h dX8_takeIn_15 ?_
    refine J_aload_n h dX8_takeIn_16 rfl rfl ?_
    refine J_aload_n h dX8_takeIn_17 rfl rfl ?_
    refine J_getr (k := 6) h dX8_takeIn_18 jc8 rfl rfl (by decide) w990 ?_
    refine J_bipush h dX8_takeIn_21 cb_24 ?_
    refine J_iload_n h dX8_takeIn_23 rfl rfl ?_
    refine J_imul h dX8_takeIn_24 ?_
    refine J_iload_n h dX8_takeIn_25 rfl rfl ?_
    refine J_iadd h dX8_takeIn_26 ?_
    refine J_iald h dX8_takeIn_27 rfl (s4 q2) ?_
    refine J_iload_n h dX8_takeIn_28 rfl rfl ?_
    exact k5 q2
theorem rX8_takeIn_29b {l : Launch} {G : jG} {X : jX} {Q : State → Prop} {n hg nc : Nat} {ret : Option FieldType} {mu : jM} {x1 : Int32} {x2 : Int32} {x3 : Int32} {x4 : Int32} {y0 : Int32} {y1 : Int32} {y3 : Int32} {Qc : Int32 → jM → Prop} {h' : Nat} (h : jOk l G X cX8_takeIn 5 ret RX8 hg nc) (hM : jCi l G yX8_towards cX8_towards 3 h' (some .int) (.ref 58 :: [.int y1, .int y0]) mu Qc) (hh : h' < hg ∧ 3 ≤ 21) (hn : n ≤ nc)
    (kk : ∀ v mu', Qc v mu' → J l G X Q 5 32 [.ref 58, .int x1, .int x2, .int x3, .int x4] (.int v :: [.int y3]) mu' n) :
    J l G X Q 5 29 [.ref 58, .int x1, .int x2, .int x3, .int x4] [.int y0, .int y1, .ref 58, .int y3] mu n :=
  J_callVi (As := [.int y1, .int y0]) (rest := [.int y3]) h dX8_takeIn_29 hM (jgV w1223 w1225 w46 w84 w1226) rfl (ci := 8) rfl rfl nmX8_towards rfl hh (Nat.le_of_ble_eq_true rfl) rfl kk hn
theorem rX8_takeIn_32b {l : Launch} {G : jG} {X : jX} {Q : State → Prop} {n hg nc : Nat} {ret : Option FieldType} {mu : jM} {x1 : Int32} {x2 : Int32} {x3 : Int32} {x4 : Int32} {y0 : Int32} {y1 : Int32} (h : jOk l G X cX8_takeIn 5 ret RX8 hg nc) (s1 : vp_in (y1 + y0) 240) (s2 : vp_in x3 24) (s3 : vp_in (y1 + y0) 240) (s4 : vp_in x3 24)
    (k5 : J l G X Q 5 2 [.ref 58, .int x1, .int x2, .int (x3 + 1), .int (y1 + y0)] [] (wr (wr mu 67 (x3).toNatClampNeg (vp_nar .boolean (mu 71 ((y1 + y0)).toNatClampNeg))) 68 (x3).toNatClampNeg (mu 72 ((y1 + y0)).toNatClampNeg)) n) :
    J l G X Q 5 32 [.ref 58, .int x1, .int x2, .int x3, .int x4] [.int y0, .int y1] mu n := by
  refine J_iadd h dX8_takeIn_32 ?_
  refine J_istore h dX8_takeIn_33 (by decide) rfl ?_
  show J l G X Q 5 35 [.ref 58, .int x1, .int x2, .int x3, .int (y1 + y0)] [] mu n
  refine J_aload_n h dX8_takeIn_35 rfl rfl ?_
  refine J_getr (k := 12) h dX8_takeIn_36 jc8 rfl rfl (by decide) w996 ?_
  refine J_iload_n h dX8_takeIn_39 rfl rfl ?_
  refine J_aload_n h dX8_takeIn_40 rfl rfl ?_
  refine J_getr (k := 16) h dX8_takeIn_41 jc8 rfl rfl (by decide) w1000 ?_
  refine J_iload h dX8_takeIn_44 rfl ?_
  refine J_zald h dX8_takeIn_46 rfl (s1) ?_
  refine J_zast h dX8_takeIn_47 rfl (s2) ?_
  refine J_aload_n h dX8_takeIn_48 rfl rfl ?_
  refine J_getr (k := 13) h dX8_takeIn_49 jc8 rfl rfl (by decide) w997 ?_
  refine J_iload_n h dX8_takeIn_52 rfl rfl ?_
  refine J_aload_n h dX8_takeIn_53 rfl rfl ?_
  refine J_getr (k := 17) h dX8_takeIn_54 jc8 rfl rfl (by decide) w1001 ?_
  refine J_iload h dX8_takeIn_57 rfl ?_
  refine J_iald h dX8_takeIn_59 rfl (s3) ?_
  refine J_iast h dX8_takeIn_60 rfl (s4) ?_
  refine J_iinc h dX8_takeIn_61 rfl (cc_1 _) (by decide) rfl ?_
  show J l G X Q 5 64 [.ref 58, .int x1, .int x2, .int (x3 + 1), .int (y1 + y0)] [] (wr (wr mu 67 (x3).toNatClampNeg (vp_nar .boolean (mu 71 ((y1 + y0)).toNatClampNeg))) 68 (x3).toNatClampNeg (mu 72 ((y1 + y0)).toNatClampNeg)) n
  refine J_goto (tgt := 2) h dX8_takeIn_64 (by decide) ?_
  exact k5
/-! LockstepNetModel.lockstep(I)V -/
theorem rX8_lockstep_0 {l : Launch} {G : jG} {X : jX} {Q : State → Prop} {n hg nc : Nat} {ret : Option FieldType} {mu : jM} {x1 : Int32} (h : jOk l G X cX8_lockstep 3 ret RX8 hg nc)
    (k3 : x1 < 0 → J l G X Q 3 39 [.ref 58, .int x1, .float 0] [] (wr mu 58 0 1) n)
    (k5 : ¬ x1 < 0 → x1 ≤ 300 → J l G X Q 3 17 [.ref 58, .int x1, .float 0] [.ref 58, .ref 58] mu n)
    (k7 : ¬ x1 < 0 → ¬ x1 ≤ 300 → J l G X Q 3 39 [.ref 58, .int x1, .float 0] [] (wr mu 58 0 1) n) :
    J l G X Q 3 0 [.ref 58, .int x1, .float 0] [] mu n := by
  refine J_aload_n h dX8_lockstep_0 rfl rfl ?_
  refine J_iload_n h dX8_lockstep_1 rfl rfl ?_
  refine J_if_lt (tgt := 12) h dX8_lockstep_2 (by decide) (fun q1 => ?_) (fun q1 => ?_)
  · skip
    refine J_iconst h dX8_lockstep_12 ci_1 ?_
    refine J_goto (tgt := 29) h dX8_lockstep_13 (by decide) ?_
    refine J_puti (k := 0) (ty0 := tyX8) h dX8_lockstep_29 jc8 tyX8_ok nmX8 rfl rfl (by decide) rfl rfl rfl w984 ?_
    refine J_aload_n h dX8_lockstep_32 rfl rfl ?_
    refine J_geti (k := 0) h dX8_lockstep_33 jc8 rfl rfl (by decide) w984 ?_
    refine J_if_le (tgt := 40) h dX8_lockstep_36 (by decide) (fun q2 => ?_) (fun q2 => ?_)
    · skip
      exact absurd (show (1 : Int32) ≤ (0 : Int32) from q2) (by decide)
    · skip
      exact k3 q1
  · skip
    refine J_iload_n h dX8_lockstep_5 rfl rfl ?_
    refine J_sipush h dX8_lockstep_6 cs_300 ?_
    refine J_icmp_le (tgt := 16) h dX8_lockstep_9 (by decide) (fun q4 => ?_) (fun q4 => ?_)
    · skip
      refine J_aload_n h dX8_lockstep_16 rfl rfl ?_
      exact k5 q1 q4
    · skip
      refine J_iconst h dX8_lockstep_12 ci_1 ?_
      refine J_goto (tgt := 29) h dX8_lockstep_13 (by decide) ?_
      refine J_puti (k := 0) (ty0 := tyX8) h dX8_lockstep_29 jc8 tyX8_ok nmX8 rfl rfl (by decide) rfl rfl rfl w984 ?_
      refine J_aload_n h dX8_lockstep_32 rfl rfl ?_
      refine J_geti (k := 0) h dX8_lockstep_33 jc8 rfl rfl (by decide) w984 ?_
      refine J_if_le (tgt := 40) h dX8_lockstep_36 (by decide) (fun q6 => ?_) (fun q6 => ?_)
      · skip
        exact absurd (show (1 : Int32) ≤ (0 : Int32) from q6) (by decide)
      · skip
        exact k7 q1 q4
theorem rX8_lockstep_17 {l : Launch} {G : jG} {X : jX} {Q : State → Prop} {n hg nc : Nat} {ret : Option FieldType} {mu : jM} {x1 : Int32} {Qc : Int32 → jM → Prop} {h' : Nat} (h : jOk l G X cX8_lockstep 3 ret RX8 hg nc) (hM : jCi l G yX8_wrongWord cX8_wrongWord 2 h' (some .int) (.ref 58 :: []) mu Qc) (hh : h' < hg ∧ 2 ≤ 21) (hn : n ≤ nc)
    (kk : ∀ v mu', Qc v mu' → J l G X Q 3 20 [.ref 58, .int x1, .float 0] (.int v :: [.ref 58]) mu' n) :
    J l G X Q 3 17 [.ref 58, .int x1, .float 0] [.ref 58, .ref 58] mu n :=
  J_callVi (As := []) (rest := [.ref 58]) h dX8_lockstep_17 hM (jgV w1186 w1188 w41 w84 w1189) rfl (ci := 8) rfl rfl nmX8_wrongWord rfl hh (Nat.le_of_ble_eq_true rfl) rfl kk hn
theorem rX8_lockstep_20 {l : Launch} {G : jG} {X : jX} {Q : State → Prop} {n hg nc : Nat} {ret : Option FieldType} {mu : jM} {x1 : Int32} {y0 : Int32} (h : jOk l G X cX8_lockstep 3 ret RX8 hg nc)
    (k3 : y0 = (-1) → J l G X Q 3 42 [.ref 58, .int x1, .int 0] [] (wr mu 58 0 0) n)
    (k5 : ¬ y0 = (-1) → J l G X Q 3 39 [.ref 58, .int x1, .float 0] [] (wr mu 58 0 2) n) :
    J l G X Q 3 20 [.ref 58, .int x1, .float 0] [.int y0, .ref 58] mu n := by
  refine J_iconst h dX8_lockstep_20 ci_m1 ?_
  refine J_icmp_eq (tgt := 28) h dX8_lockstep_21 (by decide) (fun q1 => ?_) (fun q1 => ?_)
  · skip
    refine J_iconst h dX8_lockstep_28 ci_0 ?_
    refine J_puti (k := 0) (ty0 := tyX8) h dX8_lockstep_29 jc8 tyX8_ok nmX8 rfl rfl (by decide) rfl rfl rfl w984 ?_
    refine J_aload_n h dX8_lockstep_32 rfl rfl ?_
    refine J_geti (k := 0) h dX8_lockstep_33 jc8 rfl rfl (by decide) w984 ?_
    refine J_if_le (tgt := 40) h dX8_lockstep_36 (by decide) (fun q2 => ?_) (fun q2 => ?_)
    · skip
      refine J_iconst h dX8_lockstep_40 ci_0 ?_
      refine J_istore_n h dX8_lockstep_41 rfl (by decide) rfl ?_
      show J l G X Q 3 42 [.ref 58, .int x1, .int 0] [] (wr mu 58 0 0) n
      exact k3 q1
    · skip
      exact absurd (show ¬ (0 : Int32) ≤ (0 : Int32) from q2) (by decide)
  · skip
    refine J_iconst h dX8_lockstep_24 ci_2 ?_
    refine J_goto (tgt := 29) h dX8_lockstep_25 (by decide) ?_
    refine J_puti (k := 0) (ty0 := tyX8) h dX8_lockstep_29 jc8 tyX8_ok nmX8 rfl rfl (by decide) rfl rfl rfl w984 ?_
    refine J_aload_n h dX8_lockstep_32 rfl rfl ?_
    refine J_geti (k := 0) h dX8_lockstep_33 jc8 rfl rfl (by decide) w984 ?_
    refine J_if_le (tgt := 40) h dX8_lockstep_36 (by decide) (fun q4 => ?_) (fun q4 => ?_)
    · skip
      exact absurd (show (2 : Int32) ≤ (0 : Int32) from q4) (by decide)
    · skip
      exact k5 q1
theorem rX8_lockstep_42 {l : Launch} {G : jG} {X : jX} {Q : State → Prop} {n hg nc : Nat} {ret : Option FieldType} {mu : jM} {x1 : Int32} {x2 : Int32} (h : jOk l G X cX8_lockstep 3 ret RX8 hg nc) (s3 : ¬ 240 ≤ x2 → vp_in x2 240)
    (k2 : 240 ≤ x2 → J l G X Q 3 64 [.ref 58, .int x1, .int 0] [] mu n)
    (k4 : ¬ 240 ≤ x2 → J l G X Q 3 42 [.ref 58, .int x1, .int (x2 + 1)] [] (wr mu 91 (x2).toNatClampNeg (vp_nar .boolean 0)) n) :
    J l G X Q 3 42 [.ref 58, .int x1, .int x2] [] mu n := by
  refine J_iload_n h dX8_lockstep_42 rfl rfl ?_
  refine J_sipush h dX8_lockstep_43 cs_240 ?_
  refine J_icmp_ge (tgt := 62) h dX8_lockstep_46 (by decide) (fun q1 => ?_) (fun q1 => ?_)
  · skip
    refine J_iconst h dX8_lockstep_62 ci_0 ?_
    refine J_istore_n h dX8_lockstep_63 rfl (by decide) rfl ?_
    show J l G X Q 3 64 [.ref 58, .int x1, .int 0] [] mu n
    exact k2 q1
  · skip
    refine J_aload_n h dX8_lockstep_49 rfl rfl ?_
    refine J_getr (k := 42) h dX8_lockstep_50 jc8 rfl rfl (by decide) w1026 ?_
    refine J_iload_n h dX8_lockstep_53 rfl rfl ?_
    refine J_iconst h dX8_lockstep_54 ci_0 ?_
    refine J_zast h dX8_lockstep_55 rfl (s3 q1) ?_
    refine J_iinc h dX8_lockstep_56 rfl (cc_1 _) (by decide) rfl ?_
    show J l G X Q 3 59 [.ref 58, .int x1, .int (x2 + 1)] [] (wr mu 91 (x2).toNatClampNeg (vp_nar .boolean 0)) n
    refine J_goto (tgt := 42) h dX8_lockstep_59 (by decide) ?_
    exact k4 q1
theorem rX8_lockstep_64 {l : Launch} {G : jG} {X : jX} {Q : State → Prop} {n hg nc : Nat} {ret : Option FieldType} {mu : jM} {x1 : Int32} {x2 : Int32} (h : jOk l G X cX8_lockstep 3 ret RX8 hg nc) (s3 : ¬ 192 ≤ x2 → vp_in x2 192) (s4 : ¬ 192 ≤ x2 → vp_in x2 192)
    (k2 : 192 ≤ x2 → J l G X Q 3 91 [.ref 58, .int x1, .int 1] [] mu n)
    (k5 : ¬ 192 ≤ x2 → J l G X Q 3 64 [.ref 58, .int x1, .int (x2 + 1)] [] (wr mu 64 (x2).toNatClampNeg (mu 63 (x2).toNatClampNeg)) n) :
    J l G X Q 3 64 [.ref 58, .int x1, .int x2] [] mu n := by
  refine J_iload_n h dX8_lockstep_64 rfl rfl ?_
  refine J_sipush h dX8_lockstep_65 cs_192 ?_
  refine J_icmp_ge (tgt := 89) h dX8_lockstep_68 (by decide) (fun q1 => ?_) (fun q1 => ?_)
  · skip
    refine J_iconst h dX8_lockstep_89 ci_1 ?_
    refine J_istore_n h dX8_lockstep_90 rfl (by decide) rfl ?_
    show J l G X Q 3 91 [.ref 58, .int x1, .int 1] [] mu n
    exact k2 q1
  · skip
    refine J_aload_n h dX8_lockstep_71 rfl rfl ?_
    refine J_getr (k := 8) h dX8_lockstep_72 jc8 rfl rfl (by decide) w992 ?_
    refine J_iload_n h dX8_lockstep_75 rfl rfl ?_
    refine J_aload_n h dX8_lockstep_76 rfl rfl ?_
    refine J_getr (k := 7) h dX8_lockstep_77 jc8 rfl rfl (by decide) w991 ?_
    refine J_iload_n h dX8_lockstep_80 rfl rfl ?_
    refine J_iald h dX8_lockstep_81 rfl (s3 q1) ?_
    refine J_iast h dX8_lockstep_82 rfl (s4 q1) ?_
    refine J_iinc h dX8_lockstep_83 rfl (cc_1 _) (by decide) rfl ?_
    show J l G X Q 3 86 [.ref 58, .int x1, .int (x2 + 1)] [] (wr mu 64 (x2).toNatClampNeg (mu 63 (x2).toNatClampNeg)) n
    refine J_goto (tgt := 64) h dX8_lockstep_86 (by decide) ?_
    exact k5 q1
theorem rX8_lockstep_91 {l : Launch} {G : jG} {X : jX} {Q : State → Prop} {n hg nc : Nat} {ret : Option FieldType} {mu : jM} {x1 : Int32} {x2 : Int32} (h : jOk l G X cX8_lockstep 3 ret RX8 hg nc)
    (k2 : x1 < x2 → J l G X Q 3 107 [.ref 58, .int x1, .int x2] [] mu n)
    (k3 : ¬ x1 < x2 → J l G X Q 3 98 [.ref 58, .int x1, .int x2] [.int x2, .ref 58] mu n) :
    J l G X Q 3 91 [.ref 58, .int x1, .int x2] [] mu n := by
  refine J_iload_n h dX8_lockstep_91 rfl rfl ?_
  refine J_iload_n h dX8_lockstep_92 rfl rfl ?_
  refine J_icmp_gt (tgt := 107) h dX8_lockstep_93 (by decide) (fun q1 => ?_) (fun q1 => ?_)
  · skip
    exact k2 q1
  · skip
    refine J_aload_n h dX8_lockstep_96 rfl rfl ?_
    refine J_iload_n h dX8_lockstep_97 rfl rfl ?_
    exact k3 q1
theorem rX8_lockstep_98 {l : Launch} {G : jG} {X : jX} {Q : State → Prop} {n hg nc : Nat} {ret : Option FieldType} {mu : jM} {x1 : Int32} {x2 : Int32} {y0 : Int32} {Qc : jM → Prop} {h' : Nat} (h : jOk l G X cX8_lockstep 3 ret RX8 hg nc) (hM : jCv l G yX8_plainRound cX8_plainRound 8 h' (.ref 58 :: [.int y0]) mu Qc) (hh : h' < hg ∧ 8 ≤ 21) (hn : n ≤ nc)
    (kk : ∀ mu', Qc mu' → J l G X Q 3 101 [.ref 58, .int x1, .int x2] [] mu' n) :
    J l G X Q 3 98 [.ref 58, .int x1, .int x2] [.int y0, .ref 58] mu n :=
  J_callV (As := [.int y0]) (rest := []) h dX8_lockstep_98 hM (jgV w1219 w1221 w45 w84 w1222) rfl (ci := 8) rfl rfl nmX8_plainRound rfl hh (Nat.le_of_ble_eq_true rfl) rfl kk hn
theorem rX8_lockstep_101 {l : Launch} {G : jG} {X : jX} {Q : State → Prop} {n hg nc : Nat} {ret : Option FieldType} {mu : jM} {x1 : Int32} {x2 : Int32} (h : jOk l G X cX8_lockstep 3 ret RX8 hg nc)
    (k1 : J l G X Q 3 91 [.ref 58, .int x1, .int (x2 + 1)] [] mu n) :
    J l G X Q 3 101 [.ref 58, .int x1, .int x2] [] mu n := by
  refine J_iinc h dX8_lockstep_101 rfl (cc_1 _) (by decide) rfl ?_
  show J l G X Q 3 104 [.ref 58, .int x1, .int (x2 + 1)] [] mu n
  refine J_goto (tgt := 91) h dX8_lockstep_104 (by decide) ?_
  exact k1
/-! LockstepNetModel.plainRound(I)V -/
theorem rX8_plainRound_0 {l : Launch} {G : jG} {X : jX} {Q : State → Prop} {n hg nc : Nat} {ret : Option FieldType} {mu : jM} {x1 : Int32} (h : jOk l G X cX8_plainRound 8 ret RX8 hg nc)
    (k1 : J l G X Q 8 15 [.ref 58, .int x1, .int (120 * (x1 - (x1 / 2) * 2)), .int (120 - (120 * (x1 - (x1 / 2) * 2))), .int 0, .float 0, .float 0, .float 0] [] mu n) :
    J l G X Q 8 0 [.ref 58, .int x1, .float 0, .float 0, .float 0, .float 0, .float 0, .float 0] [] mu n := by
  refine J_bipush h dX8_plainRound_0 cb_120 ?_
  refine J_iload_n h dX8_plainRound_2 rfl rfl ?_
  refine J_iconst h dX8_plainRound_3 ci_2 ?_
  refine J_irem h dX8_plainRound_4 (by decide) ?_
  refine J_imul h dX8_plainRound_5 ?_
  refine J_istore_n h dX8_plainRound_6 rfl (by decide) rfl ?_
  show J l G X Q 8 7 [.ref 58, .int x1, .int (120 * (x1 - (x1 / 2) * 2)), .float 0, .float 0, .float 0, .float 0, .float 0] [] mu n
  refine J_bipush h dX8_plainRound_7 cb_120 ?_
  refine J_iload_n h dX8_plainRound_9 rfl rfl ?_
  refine J_isub h dX8_plainRound_10 ?_
  refine J_istore_n h dX8_plainRound_11 rfl (by decide) rfl ?_
  show J l G X Q 8 12 [.ref 58, .int x1, .int (120 * (x1 - (x1 / 2) * 2)), .int (120 - (120 * (x1 - (x1 / 2) * 2))), .float 0, .float 0, .float 0, .float 0] [] mu n
  refine J_iconst h dX8_plainRound_12 ci_0 ?_
  refine J_istore h dX8_plainRound_13 (by decide) rfl ?_
  show J l G X Q 8 15 [.ref 58, .int x1, .int (120 * (x1 - (x1 / 2) * 2)), .int (120 - (120 * (x1 - (x1 / 2) * 2))), .int 0, .float 0, .float 0, .float 0] [] mu n
  exact k1
theorem rX8_plainRound_15 {l : Launch} {G : jG} {X : jX} {Q : State → Prop} {n hg nc : Nat} {ret : Option FieldType} {mu : jM} {x1 : Int32} {x2 : Int32} {x3 : Int32} {x4 : Int32} (h : jOk l G X cX8_plainRound 8 ret RX8 hg nc) (s3 : ¬ 120 ≤ x4 → vp_in (x2 + x4) 240)
    (k2 : 120 ≤ x4 → J l G X Q 8 41 [.ref 58, .int x1, .int x2, .int x3, .int 0, .float 0, .float 0, .float 0] [] mu n)
    (k4 : ¬ 120 ≤ x4 → J l G X Q 8 15 [.ref 58, .int x1, .int x2, .int x3, .int (x4 + 1), .float 0, .float 0, .float 0] [] (wr mu 91 ((x2 + x4)).toNatClampNeg (vp_nar .boolean 0)) n) :
    J l G X Q 8 15 [.ref 58, .int x1, .int x2, .int x3, .int x4, .float 0, .float 0, .float 0] [] mu n := by
  refine J_iload h dX8_plainRound_15 rfl ?_
  refine J_bipush h dX8_plainRound_17 cb_120 ?_
  refine J_icmp_ge (tgt := 38) h dX8_plainRound_19 (by decide) (fun q1 => ?_) (fun q1 => ?_)
  · skip
    refine J_iconst h dX8_plainRound_38 ci_0 ?_
    refine J_istore h dX8_plainRound_39 (by decide) rfl ?_
    show J l G X Q 8 41 [.ref 58, .int x1, .int x2, .int x3, .int 0, .float 0, .float 0, .float 0] [] mu n
    exact k2 q1
  · skip
    refine J_aload_n h dX8_plainRound_22 rfl rfl ?_
    refine J_getr (k := 42) h dX8_plainRound_23 jc8 rfl rfl (by decide) w1026 ?_
    refine J_iload_n h dX8_plainRound_26 rfl rfl ?_
    refine J_iload h dX8_plainRound_27 rfl ?_
    refine J_iadd h dX8_plainRound_29 ?_
    refine J_iconst h dX8_plainRound_30 ci_0 ?_
    refine J_zast h dX8_plainRound_31 rfl (s3 q1) ?_
    refine J_iinc h dX8_plainRound_32 rfl (cc_1 _) (by decide) rfl ?_
    show J l G X Q 8 35 [.ref 58, .int x1, .int x2, .int x3, .int (x4 + 1), .float 0, .float 0, .float 0] [] (wr mu 91 ((x2 + x4)).toNatClampNeg (vp_nar .boolean 0)) n
    refine J_goto (tgt := 15) h dX8_plainRound_35 (by decide) ?_
    exact k4 q1
theorem rX8_plainRound_41 {l : Launch} {G : jG} {X : jX} {Q : State → Prop} {n hg nc : Nat} {ret : Option FieldType} {mu : jM} {x1 : Int32} {x2 : Int32} {x3 : Int32} {x4 : Int32} (h : jOk l G X cX8_plainRound 8 ret RX8 hg nc)
    (k2 : (mu 58 1) ≤ x4 → J l G X Q 8 293 [.ref 58, .int x1, .int x2, .int x3, .int x4, .float 0, .float 0, .float 0] [] mu n)
    (k3 : ¬ (mu 58 1) ≤ x4 → J l G X Q 8 53 [.ref 58, .int x1, .int x2, .int x3, .int x4, .int 0, .float 0, .float 0] [] mu n) :
    J l G X Q 8 41 [.ref 58, .int x1, .int x2, .int x3, .int x4, .float 0, .float 0, .float 0] [] mu n := by
  refine J_iload h dX8_plainRound_41 rfl ?_
  refine J_aload_n h dX8_plainRound_43 rfl rfl ?_
  refine J_geti (k := 1) h dX8_plainRound_44 jc8 rfl rfl (by decide) w985 ?_
  refine J_icmp_ge (tgt := 293) h dX8_plainRound_47 (by decide) (fun q1 => ?_) (fun q1 => ?_)
  · skip
    exact k2 q1
  · skip
    refine J_iconst h dX8_plainRound_50 ci_0 ?_
    refine J_istore h dX8_plainRound_51 (by decide) rfl ?_
    show J l G X Q 8 53 [.ref 58, .int x1, .int x2, .int x3, .int x4, .int 0, .float 0, .float 0] [] mu n
    exact k3 q1
theorem rX8_plainRound_53 {l : Launch} {G : jG} {X : jX} {Q : State → Prop} {n hg nc : Nat} {ret : Option FieldType} {mu : jM} {x1 : Int32} {x2 : Int32} {x3 : Int32} {x4 : Int32} {x5 : Int32} (h : jOk l G X cX8_plainRound 8 ret RX8 hg nc) (s3 : ¬ 8 ≤ x5 → vp_in ((8 * x4) + x5) 192) (s4 : ¬ 8 ≤ x5 → vp_in x5 8)
    (k2 : 8 ≤ x5 → J l G X Q 8 89 [.ref 58, .int x1, .int x2, .int x3, .int x4, .int 0, .float 0, .float 0] [] mu n)
    (k5 : ¬ 8 ≤ x5 → J l G X Q 8 53 [.ref 58, .int x1, .int x2, .int x3, .int x4, .int (x5 + 1), .float 0, .float 0] [] (wr mu 66 (x5).toNatClampNeg (mu 64 (((8 * x4) + x5)).toNatClampNeg)) n) :
    J l G X Q 8 53 [.ref 58, .int x1, .int x2, .int x3, .int x4, .int x5, .float 0, .float 0] [] mu n := by
  refine J_iload h dX8_plainRound_53 rfl ?_
  refine J_bipush h dX8_plainRound_55 cb_8 ?_
  refine J_icmp_ge (tgt := 86) h dX8_plainRound_57 (by decide) (fun q1 => ?_) (fun q1 => ?_)
  · skip
    refine J_iconst h dX8_plainRound_86 ci_0 ?_
    refine J_istore h dX8_plainRound_87 (by decide) rfl ?_
    show J l G X Q 8 89 [.ref 58, .int x1, .int x2, .int x3, .int x4, .int 0, .float 0, .float 0] [] mu n
    exact k2 q1
  · skip
    refine J_aload_n h dX8_plainRound_60 rfl rfl ?_
    refine J_getr (k := 11) h dX8_plainRound_61 jc8 rfl rfl (by decide) w995 ?_
    refine J_iload h dX8_plainRound_64 rfl ?_
    refine J_aload_n h dX8_plainRound_66 rfl rfl ?_
    refine J_getr (k := 8) h dX8_plainRound_67 jc8 rfl rfl (by decide) w992 ?_
    refine J_bipush h dX8_plainRound_70 cb_8 ?_
    refine J_iload h dX8_plainRound_72 rfl ?_
    refine J_imul h dX8_plainRound_74 ?_
    refine J_iload h dX8_plainRound_75 rfl ?_
    refine J_iadd h dX8_plainRound_77 ?_
    refine J_iald h dX8_plainRound_78 rfl (s3 q1) ?_
    refine J_iast h dX8_plainRound_79 rfl (s4 q1) ?_
    refine J_iinc h dX8_plainRound_80 rfl (cc_1 _) (by decide) rfl ?_
    show J l G X Q 8 83 [.ref 58, .int x1, .int x2, .int x3, .int x4, .int (x5 + 1), .float 0, .float 0] [] (wr mu 66 (x5).toNatClampNeg (mu 64 (((8 * x4) + x5)).toNatClampNeg)) n
    refine J_goto (tgt := 53) h dX8_plainRound_83 (by decide) ?_
    exact k5 q1
theorem rX8_plainRound_89 {l : Launch} {G : jG} {X : jX} {Q : State → Prop} {n hg nc : Nat} {ret : Option FieldType} {mu : jM} {x1 : Int32} {x2 : Int32} {x3 : Int32} {x4 : Int32} {x5 : Int32} (h : jOk l G X cX8_plainRound 8 ret RX8 hg nc) (s1 : vp_in x4 24) (s4 : ¬ (mu 61 (x4).toNatClampNeg) ≤ x5 → vp_in ((24 * x4) + x5) 576)
    (k3 : (mu 61 (x4).toNatClampNeg) ≤ x5 → J l G X Q 8 162 [.ref 58, .int x1, .int x2, .int x3, .int x4, .int x5, .float 0, .float 0] [.int x1, .int x4, .ref 58] mu n)
    (k5 : ¬ (mu 61 (x4).toNatClampNeg) ≤ x5 → J l G X Q 8 118 [.ref 58, .int x1, .int x2, .int x3, .int x4, .int x5, .float 0, .float 0] [.int x4, .int (mu 62 (((24 * x4) + x5)).toNatClampNeg), .ref 58, .int x3] mu n) :
    J l G X Q 8 89 [.ref 58, .int x1, .int x2, .int x3, .int x4, .int x5, .float 0, .float 0] [] mu n := by
  refine J_iload h dX8_plainRound_89 rfl ?_
  refine J_aload_n h dX8_plainRound_91 rfl rfl ?_
  refine J_getr (k := 5) h dX8_plainRound_92 jc8 rfl rfl (by decide) w989 ?_
  refine J_iload h dX8_plainRound_95 rfl ?_
  refine J_iald h dX8_plainRound_97 rfl (s1) ?_
  refine J_icmp_ge (tgt := 158) h dX8_plainRound_98 (by decide) (fun q2 => ?_) (fun q2 => ?_)
  · skip
    refine J_aload_n h dX8_plainRound_158 rfl rfl ?_
    refine J_iload h dX8_plainRound_159 rfl ?_
    refine J_iload_n h dX8_plainRound_161 rfl rfl ?_
    exact k3 q2
  · skip
    refine J_iload_n h dX8_plainRound_101 rfl rfl ?_
    refine J_aload_n h dX8_plainRound_102 rfl rfl ?_
    refine J_aload_n h dX8_plainRound_103 rfl rfl ?_
    refine J_getr (k := 6) h dX8_plainRound_104 jc8 rfl rfl (by decide) w990 ?_
    refine J_bipush h dX8_plainRound_107 cb_24 ?_
    refine J_iload h dX8_plainRound_109 rfl ?_
    refine J_imul h dX8_plainRound_111 ?_
    refine J_iload h dX8_plainRound_112 rfl ?_
    refine J_iadd h dX8_plainRound_114 ?_
    refine J_iald h dX8_plainRound_115 rfl (s4 q2) ?_
    refine J_iload h dX8_plainRound_116 rfl ?_
    exact k5 q2
theorem rX8_plainRound_162 {l : Launch} {G : jG} {X : jX} {Q : State → Prop} {n hg nc : Nat} {ret : Option FieldType} {mu : jM} {x1 : Int32} {x2 : Int32} {x3 : Int32} {x4 : Int32} {x5 : Int32} {y0 : Int32} {y1 : Int32} {Qc : jM → Prop} {h' : Nat} (h : jOk l G X cX8_plainRound 8 ret RX8 hg nc) (hM : jCv l G yX8_doProgram cX8_doProgram 6 h' (.ref 58 :: [.int y1, .int y0]) mu Qc) (hh : h' < hg ∧ 6 ≤ 21) (hn : n ≤ nc)
    (kk : ∀ mu', Qc mu' → J l G X Q 8 165 [.ref 58, .int x1, .int x2, .int x3, .int x4, .int x5, .float 0, .float 0] [] mu' n) :
    J l G X Q 8 162 [.ref 58, .int x1, .int x2, .int x3, .int x4, .int x5, .float 0, .float 0] [.int y0, .int y1, .ref 58] mu n :=
  J_callV (As := [.int y1, .int y0]) (rest := []) h dX8_plainRound_162 hM (jgV w1227 w1229 w47 w84 w1230) rfl (ci := 8) rfl rfl nmX8_doProgram rfl hh (Nat.le_of_ble_eq_true rfl) rfl kk hn
theorem rX8_plainRound_118 {l : Launch} {G : jG} {X : jX} {Q : State → Prop} {n hg nc : Nat} {ret : Option FieldType} {mu : jM} {x1 : Int32} {x2 : Int32} {x3 : Int32} {x4 : Int32} {x5 : Int32} {y0 : Int32} {y1 : Int32} {y3 : Int32} {Qc : Int32 → jM → Prop} {h' : Nat} (h : jOk l G X cX8_plainRound 8 ret RX8 hg nc) (hM : jCi l G yX8_towards cX8_towards 3 h' (some .int) (.ref 58 :: [.int y1, .int y0]) mu Qc) (hh : h' < hg ∧ 3 ≤ 21) (hn : n ≤ nc)
    (kk : ∀ v mu', Qc v mu' → J l G X Q 8 121 [.ref 58, .int x1, .int x2, .int x3, .int x4, .int x5, .float 0, .float 0] (.int v :: [.int y3]) mu' n) :
    J l G X Q 8 118 [.ref 58, .int x1, .int x2, .int x3, .int x4, .int x5, .float 0, .float 0] [.int y0, .int y1, .ref 58, .int y3] mu n :=
  J_callVi (As := [.int y1, .int y0]) (rest := [.int y3]) h dX8_plainRound_118 hM (jgV w1223 w1225 w46 w84 w1226) rfl (ci := 8) rfl rfl nmX8_towards rfl hh (Nat.le_of_ble_eq_true rfl) rfl kk hn
theorem rX8_plainRound_165 {l : Launch} {G : jG} {X : jX} {Q : State → Prop} {n hg nc : Nat} {ret : Option FieldType} {mu : jM} {x1 : Int32} {x2 : Int32} {x3 : Int32} {x4 : Int32} {x5 : Int32} (h : jOk l G X cX8_plainRound 8 ret RX8 hg nc)
    (k1 : J l G X Q 8 168 [.ref 58, .int x1, .int x2, .int x3, .int x4, .int 0, .float 0, .float 0] [] mu n) :
    J l G X Q 8 165 [.ref 58, .int x1, .int x2, .int x3, .int x4, .int x5, .float 0, .float 0] [] mu n := by
  refine J_iconst h dX8_plainRound_165 ci_0 ?_
  refine J_istore h dX8_plainRound_166 (by decide) rfl ?_
  show J l G X Q 8 168 [.ref 58, .int x1, .int x2, .int x3, .int x4, .int 0, .float 0, .float 0] [] mu n
  exact k1
theorem rX8_plainRound_121 {l : Launch} {G : jG} {X : jX} {Q : State → Prop} {n hg nc : Nat} {ret : Option FieldType} {mu : jM} {x1 : Int32} {x2 : Int32} {x3 : Int32} {x4 : Int32} {x5 : Int32} {y0 : Int32} {y1 : Int32} (h : jOk l G X cX8_plainRound 8 ret RX8 hg nc) (s1 : vp_in (y1 + y0) 240) (s2 : vp_in x5 24) (s3 : vp_in (y1 + y0) 240) (s4 : vp_in x5 24)
    (k5 : J l G X Q 8 89 [.ref 58, .int x1, .int x2, .int x3, .int x4, .int (x5 + 1), .int (y1 + y0), .float 0] [] (wr (wr mu 67 (x5).toNatClampNeg (vp_nar .boolean (mu 91 ((y1 + y0)).toNatClampNeg))) 68 (x5).toNatClampNeg (mu 92 ((y1 + y0)).toNatClampNeg)) n) :
    J l G X Q 8 121 [.ref 58, .int x1, .int x2, .int x3, .int x4, .int x5, .float 0, .float 0] [.int y0, .int y1] mu n := by
  refine J_iadd h dX8_plainRound_121 ?_
  refine J_istore h dX8_plainRound_122 (by decide) rfl ?_
  show J l G X Q 8 124 [.ref 58, .int x1, .int x2, .int x3, .int x4, .int x5, .int (y1 + y0), .float 0] [] mu n
  refine J_aload_n h dX8_plainRound_124 rfl rfl ?_
  refine J_getr (k := 12) h dX8_plainRound_125 jc8 rfl rfl (by decide) w996 ?_
  refine J_iload h dX8_plainRound_128 rfl ?_
  refine J_aload_n h dX8_plainRound_130 rfl rfl ?_
  refine J_getr (k := 42) h dX8_plainRound_131 jc8 rfl rfl (by decide) w1026 ?_
  refine J_iload h dX8_plainRound_134 rfl ?_
  refine J_zald h dX8_plainRound_136 rfl (s1) ?_
  refine J_zast h dX8_plainRound_137 rfl (s2) ?_
  refine J_aload_n h dX8_plainRound_138 rfl rfl ?_
  refine J_getr (k := 13) h dX8_plainRound_139 jc8 rfl rfl (by decide) w997 ?_
  refine J_iload h dX8_plainRound_142 rfl ?_
  refine J_aload_n h dX8_plainRound_144 rfl rfl ?_
  refine J_getr (k := 43) h dX8_plainRound_145 jc8 rfl rfl (by decide) w1027 ?_
  refine J_iload h dX8_plainRound_148 rfl ?_
  refine J_iald h dX8_plainRound_150 rfl (s3) ?_
  refine J_iast h dX8_plainRound_151 rfl (s4) ?_
  refine J_iinc h dX8_plainRound_152 rfl (cc_1 _) (by decide) rfl ?_
  show J l G X Q 8 155 [.ref 58, .int x1, .int x2, .int x3, .int x4, .int (x5 + 1), .int (y1 + y0), .float 0] [] (wr (wr mu 67 (x5).toNatClampNeg (vp_nar .boolean (mu 91 ((y1 + y0)).toNatClampNeg))) 68 (x5).toNatClampNeg (mu 92 ((y1 + y0)).toNatClampNeg)) n
  refine J_goto (tgt := 89) h dX8_plainRound_155 (by decide) ?_
  exact k5
theorem rX8_plainRound_168 {l : Launch} {G : jG} {X : jX} {Q : State → Prop} {n hg nc : Nat} {ret : Option FieldType} {mu : jM} {x1 : Int32} {x2 : Int32} {x3 : Int32} {x4 : Int32} {x5 : Int32} (h : jOk l G X cX8_plainRound 8 ret RX8 hg nc) (s3 : ¬ 8 ≤ x5 → vp_in x5 8) (s4 : ¬ 8 ≤ x5 → vp_in ((8 * x4) + x5) 192)
    (k2 : 8 ≤ x5 → J l G X Q 8 204 [.ref 58, .int x1, .int x2, .int x3, .int x4, .int 0, .float 0, .float 0] [] mu n)
    (k5 : ¬ 8 ≤ x5 → J l G X Q 8 168 [.ref 58, .int x1, .int x2, .int x3, .int x4, .int (x5 + 1), .float 0, .float 0] [] (wr mu 64 (((8 * x4) + x5)).toNatClampNeg (mu 66 (x5).toNatClampNeg)) n) :
    J l G X Q 8 168 [.ref 58, .int x1, .int x2, .int x3, .int x4, .int x5, .float 0, .float 0] [] mu n := by
  refine J_iload h dX8_plainRound_168 rfl ?_
  refine J_bipush h dX8_plainRound_170 cb_8 ?_
  refine J_icmp_ge (tgt := 201) h dX8_plainRound_172 (by decide) (fun q1 => ?_) (fun q1 => ?_)
  · skip
    refine J_iconst h dX8_plainRound_201 ci_0 ?_
    refine J_istore h dX8_plainRound_202 (by decide) rfl ?_
    show J l G X Q 8 204 [.ref 58, .int x1, .int x2, .int x3, .int x4, .int 0, .float 0, .float 0] [] mu n
    exact k2 q1
  · skip
    refine J_aload_n h dX8_plainRound_175 rfl rfl ?_
    refine J_getr (k := 8) h dX8_plainRound_176 jc8 rfl rfl (by decide) w992 ?_
    refine J_bipush h dX8_plainRound_179 cb_8 ?_
    refine J_iload h dX8_plainRound_181 rfl ?_
    refine J_imul h dX8_plainRound_183 ?_
    refine J_iload h dX8_plainRound_184 rfl ?_
    refine J_iadd h dX8_plainRound_186 ?_
    refine J_aload_n h dX8_plainRound_187 rfl rfl ?_
    refine J_getr (k := 11) h dX8_plainRound_188 jc8 rfl rfl (by decide) w995 ?_
    refine J_iload h dX8_plainRound_191 rfl ?_
    refine J_iald h dX8_plainRound_193 rfl (s3 q1) ?_
    refine J_iast h dX8_plainRound_194 rfl (s4 q1) ?_
    refine J_iinc h dX8_plainRound_195 rfl (cc_1 _) (by decide) rfl ?_
    show J l G X Q 8 198 [.ref 58, .int x1, .int x2, .int x3, .int x4, .int (x5 + 1), .float 0, .float 0] [] (wr mu 64 (((8 * x4) + x5)).toNatClampNeg (mu 66 (x5).toNatClampNeg)) n
    refine J_goto (tgt := 168) h dX8_plainRound_198 (by decide) ?_
    exact k5 q1
theorem rX8_plainRound_89b {l : Launch} {G : jG} {X : jX} {Q : State → Prop} {n hg nc : Nat} {ret : Option FieldType} {mu : jM} {x1 : Int32} {x2 : Int32} {x3 : Int32} {x4 : Int32} {x5 : Int32} {x6 : Int32} (h : jOk l G X cX8_plainRound 8 ret RX8 hg nc) (s1 : vp_in x4 24) (s4 : ¬ (mu 61 (x4).toNatClampNeg) ≤ x5 → vp_in ((24 * x4) + x5) 576)
    (k3 : (mu 61 (x4).toNatClampNeg) ≤ x5 → J l G X Q 8 162 [.ref 58, .int x1, .int x2, .int x3, .int x4, .int x5, .int x6, .float 0] [.int x1, .int x4, .ref 58] mu n)
    (k5 : ¬ (mu 61 (x4).toNatClampNeg) ≤ x5 → J l G X Q 8 118 [.ref 58, .int x1, .int x2, .int x3, .int x4, .int x5, .int x6, .float 0] [.int x4, .int (mu 62 (((24 * x4) + x5)).toNatClampNeg), .ref 58, .int x3] mu n) :
    J l G X Q 8 89 [.ref 58, .int x1, .int x2, .int x3, .int x4, .int x5, .int x6, .float 0] [] mu n := by
  refine J_iload h dX8_plainRound_89 rfl ?_
  refine J_aload_n h dX8_plainRound_91 rfl rfl ?_
  refine J_getr (k := 5) h dX8_plainRound_92 jc8 rfl rfl (by decide) w989 ?_
  refine J_iload h dX8_plainRound_95 rfl ?_
  refine J_iald h dX8_plainRound_97 rfl (s1) ?_
  refine J_icmp_ge (tgt := 158) h dX8_plainRound_98 (by decide) (fun q2 => ?_) (fun q2 => ?_)
  · skip
    refine J_aload_n h dX8_plainRound_158 rfl rfl ?_
    refine J_iload h dX8_plainRound_159 rfl ?_
    refine J_iload_n h dX8_plainRound_161 rfl rfl ?_
    exact k3 q2
  · skip
    refine J_iload_n h dX8_plainRound_101 rfl rfl ?_
    refine J_aload_n h dX8_plainRound_102 rfl rfl ?_
    refine J_aload_n h dX8_plainRound_103 rfl rfl ?_
    refine J_getr (k := 6) h dX8_plainRound_104 jc8 rfl rfl (by decide) w990 ?_
    refine J_bipush h dX8_plainRound_107 cb_24 ?_
    refine J_iload h dX8_plainRound_109 rfl ?_
    refine J_imul h dX8_plainRound_111 ?_
    refine J_iload h dX8_plainRound_112 rfl ?_
    refine J_iadd h dX8_plainRound_114 ?_
    refine J_iald h dX8_plainRound_115 rfl (s4 q2) ?_
    refine J_iload h dX8_plainRound_116 rfl ?_
    exact k5 q2
theorem rX8_plainRound_204 {l : Launch} {G : jG} {X : jX} {Q : State → Prop} {n hg nc : Nat} {ret : Option FieldType} {mu : jM} {x1 : Int32} {x2 : Int32} {x3 : Int32} {x4 : Int32} {x5 : Int32} (h : jOk l G X cX8_plainRound 8 ret RX8 hg nc) (s1 : vp_in x4 24) (s4 : ¬ (mu 61 (x4).toNatClampNeg) ≤ x5 → vp_in ((24 * x4) + x5) 576)
    (k3 : (mu 61 (x4).toNatClampNeg) ≤ x5 → J l G X Q 8 41 [.ref 58, .int x1, .int x2, .int x3, .int (x4 + 1), .int x5, .float 0, .float 0] [] mu n)
    (k5 : ¬ (mu 61 (x4).toNatClampNeg) ≤ x5 → J l G X Q 8 240 [.ref 58, .int x1, .int x2, .int x3, .int x4, .int x5, .int (mu 62 (((24 * x4) + x5)).toNatClampNeg), .float 0] [.int x4, .int (mu 62 (((24 * x4) + x5)).toNatClampNeg), .ref 58, .int (mu 62 (((24 * x4) + x5)).toNatClampNeg), .ref 58, .int x2] mu n) :
    J l G X Q 8 204 [.ref 58, .int x1, .int x2, .int x3, .int x4, .int x5, .float 0, .float 0] [] mu n := by
  refine J_iload h dX8_plainRound_204 rfl ?_
  refine J_aload_n h dX8_plainRound_206 rfl rfl ?_
  refine J_getr (k := 5) h dX8_plainRound_207 jc8 rfl rfl (by decide) w989 ?_
  refine J_iload h dX8_plainRound_210 rfl ?_
  refine J_iald h dX8_plainRound_212 rfl (s1) ?_
  refine J_icmp_ge (tgt := 287) h dX8_plainRound_213 (by decide) (fun q2 => ?_) (fun q2 => ?_)
  · skip
    refine J_iinc h dX8_plainRound_287 rfl (cc_1 _) (by decide) rfl ?_
    show J l G X Q 8 290 [.ref 58, .int x1, .int x2, .int x3, .int (x4 + 1), .int x5, .float 0, .float 0] [] mu n
    refine J_goto (tgt := 41) h dX8_plainRound_290 (by decide) ?_
    exact k3 q2
  · skip
    refine J_aload_n h dX8_plainRound_216 rfl rfl ?_
    refine J_getr (k := 6) h dX8_plainRound_217 jc8 rfl rfl (by decide) w990 ?_
    refine J_bipush h dX8_plainRound_220 cb_24 ?_
    refine J_iload h dX8_plainRound_222 rfl ?_
    refine J_imul h dX8_plainRound_224 ?_
    refine J_iload h dX8_plainRound_225 rfl ?_
    refine J_iadd h dX8_plainRound_227 ?_
    refine J_iald h dX8_plainRound_228 rfl (s4 q2) ?_
    refine J_istore h dX8_plainRound_229 (by decide) rfl ?_
    show J l G X Q 8 231 [.ref 58, .int x1, .int x2, .int x3, .int x4, .int x5, .int (mu 62 (((24 * x4) + x5)).toNatClampNeg), .float 0] [] mu n
    refine J_iload_n h dX8_plainRound_231 rfl rfl ?_
    refine J_aload_n h dX8_plainRound_232 rfl rfl ?_
    refine J_iload h dX8_plainRound_233 rfl ?_
    refine J_aload_n h dX8_plainRound_235 rfl rfl ?_
    refine J_iload h dX8_plainRound_236 rfl ?_
    refine J_iload h dX8_plainRound_238 rfl ?_
    exact k5 q2
theorem rX8_plainRound_162b {l : Launch} {G : jG} {X : jX} {Q : State → Prop} {n hg nc : Nat} {ret : Option FieldType} {mu : jM} {x1 : Int32} {x2 : Int32} {x3 : Int32} {x4 : Int32} {x5 : Int32} {x6 : Int32} {y0 : Int32} {y1 : Int32} {Qc : jM → Prop} {h' : Nat} (h : jOk l G X cX8_plainRound 8 ret RX8 hg nc) (hM : jCv l G yX8_doProgram cX8_doProgram 6 h' (.ref 58 :: [.int y1, .int y0]) mu Qc) (hh : h' < hg ∧ 6 ≤ 21) (hn : n ≤ nc)
    (kk : ∀ mu', Qc mu' → J l G X Q 8 165 [.ref 58, .int x1, .int x2, .int x3, .int x4, .int x5, .int x6, .float 0] [] mu' n) :
    J l G X Q 8 162 [.ref 58, .int x1, .int x2, .int x3, .int x4, .int x5, .int x6, .float 0] [.int y0, .int y1, .ref 58] mu n :=
  J_callV (As := [.int y1, .int y0]) (rest := []) h dX8_plainRound_162 hM (jgV w1227 w1229 w47 w84 w1230) rfl (ci := 8) rfl rfl nmX8_doProgram rfl hh (Nat.le_of_ble_eq_true rfl) rfl kk hn
theorem rX8_plainRound_118b {l : Launch} {G : jG} {X : jX} {Q : State → Prop} {n hg nc : Nat} {ret : Option FieldType} {mu : jM} {x1 : Int32} {x2 : Int32} {x3 : Int32} {x4 : Int32} {x5 : Int32} {x6 : Int32} {y0 : Int32} {y1 : Int32} {y3 : Int32} {Qc : Int32 → jM → Prop} {h' : Nat} (h : jOk l G X cX8_plainRound 8 ret RX8 hg nc) (hM : jCi l G yX8_towards cX8_towards 3 h' (some .int) (.ref 58 :: [.int y1, .int y0]) mu Qc) (hh : h' < hg ∧ 3 ≤ 21) (hn : n ≤ nc)
    (kk : ∀ v mu', Qc v mu' → J l G X Q 8 121 [.ref 58, .int x1, .int x2, .int x3, .int x4, .int x5, .int x6, .float 0] (.int v :: [.int y3]) mu' n) :
    J l G X Q 8 118 [.ref 58, .int x1, .int x2, .int x3, .int x4, .int x5, .int x6, .float 0] [.int y0, .int y1, .ref 58, .int y3] mu n :=
  J_callVi (As := [.int y1, .int y0]) (rest := [.int y3]) h dX8_plainRound_118 hM (jgV w1223 w1225 w46 w84 w1226) rfl (ci := 8) rfl rfl nmX8_towards rfl hh (Nat.le_of_ble_eq_true rfl) rfl kk hn
theorem rX8_plainRound_41b {l : Launch} {G : jG} {X : jX} {Q : State → Prop} {n hg nc : Nat} {ret : Option FieldType} {mu : jM} {x1 : Int32} {x2 : Int32} {x3 : Int32} {x4 : Int32} {x5 : Int32} (h : jOk l G X cX8_plainRound 8 ret RX8 hg nc)
    (k2 : (mu 58 1) ≤ x4 → J l G X Q 8 293 [.ref 58, .int x1, .int x2, .int x3, .int x4, .int x5, .float 0, .float 0] [] mu n)
    (k3 : ¬ (mu 58 1) ≤ x4 → J l G X Q 8 53 [.ref 58, .int x1, .int x2, .int x3, .int x4, .int 0, .float 0, .float 0] [] mu n) :
    J l G X Q 8 41 [.ref 58, .int x1, .int x2, .int x3, .int x4, .int x5, .float 0, .float 0] [] mu n := by
  refine J_iload h dX8_plainRound_41 rfl ?_
  refine J_aload_n h dX8_plainRound_43 rfl rfl ?_
  refine J_geti (k := 1) h dX8_plainRound_44 jc8 rfl rfl (by decide) w985 ?_
  refine J_icmp_ge (tgt := 293) h dX8_plainRound_47 (by decide) (fun q1 => ?_) (fun q1 => ?_)
  · skip
    exact k2 q1
  · skip
    refine J_iconst h dX8_plainRound_50 ci_0 ?_
    refine J_istore h dX8_plainRound_51 (by decide) rfl ?_
    show J l G X Q 8 53 [.ref 58, .int x1, .int x2, .int x3, .int x4, .int 0, .float 0, .float 0] [] mu n
    exact k3 q1
theorem rX8_plainRound_240 {l : Launch} {G : jG} {X : jX} {Q : State → Prop} {n hg nc : Nat} {ret : Option FieldType} {mu : jM} {x1 : Int32} {x2 : Int32} {x3 : Int32} {x4 : Int32} {x5 : Int32} {x6 : Int32} {y0 : Int32} {y1 : Int32} {y3 : Int32} {y5 : Int32} {Qc : Int32 → jM → Prop} {h' : Nat} (h : jOk l G X cX8_plainRound 8 ret RX8 hg nc) (hM : jCi l G yX8_otherEnd cX8_otherEnd 3 h' (some .int) (.ref 58 :: [.int y1, .int y0]) mu Qc) (hh : h' < hg ∧ 3 ≤ 21) (hn : n ≤ nc)
    (kk : ∀ v mu', Qc v mu' → J l G X Q 8 243 [.ref 58, .int x1, .int x2, .int x3, .int x4, .int x5, .int x6, .float 0] (.int v :: [.int y3, .ref 58, .int y5]) mu' n) :
    J l G X Q 8 240 [.ref 58, .int x1, .int x2, .int x3, .int x4, .int x5, .int x6, .float 0] [.int y0, .int y1, .ref 58, .int y3, .ref 58, .int y5] mu n :=
  J_callVi (As := [.int y1, .int y0]) (rest := [.int y3, .ref 58, .int y5]) h dX8_plainRound_240 hM (jgV w1245 w1247 w50 w84 w1248) rfl (ci := 8) rfl rfl nmX8_otherEnd rfl hh (Nat.le_of_ble_eq_true rfl) rfl kk hn
theorem rX8_plainRound_165b {l : Launch} {G : jG} {X : jX} {Q : State → Prop} {n hg nc : Nat} {ret : Option FieldType} {mu : jM} {x1 : Int32} {x2 : Int32} {x3 : Int32} {x4 : Int32} {x5 : Int32} {x6 : Int32} (h : jOk l G X cX8_plainRound 8 ret RX8 hg nc)
    (k1 : J l G X Q 8 168 [.ref 58, .int x1, .int x2, .int x3, .int x4, .int 0, .int x6, .float 0] [] mu n) :
    J l G X Q 8 165 [.ref 58, .int x1, .int x2, .int x3, .int x4, .int x5, .int x6, .float 0] [] mu n := by
  refine J_iconst h dX8_plainRound_165 ci_0 ?_
  refine J_istore h dX8_plainRound_166 (by decide) rfl ?_
  show J l G X Q 8 168 [.ref 58, .int x1, .int x2, .int x3, .int x4, .int 0, .int x6, .float 0] [] mu n
  exact k1
theorem rX8_plainRound_121b {l : Launch} {G : jG} {X : jX} {Q : State → Prop} {n hg nc : Nat} {ret : Option FieldType} {mu : jM} {x1 : Int32} {x2 : Int32} {x3 : Int32} {x4 : Int32} {x5 : Int32} {x6 : Int32} {y0 : Int32} {y1 : Int32} (h : jOk l G X cX8_plainRound 8 ret RX8 hg nc) (s1 : vp_in (y1 + y0) 240) (s2 : vp_in x5 24) (s3 : vp_in (y1 + y0) 240) (s4 : vp_in x5 24)
    (k5 : J l G X Q 8 89 [.ref 58, .int x1, .int x2, .int x3, .int x4, .int (x5 + 1), .int (y1 + y0), .float 0] [] (wr (wr mu 67 (x5).toNatClampNeg (vp_nar .boolean (mu 91 ((y1 + y0)).toNatClampNeg))) 68 (x5).toNatClampNeg (mu 92 ((y1 + y0)).toNatClampNeg)) n) :
    J l G X Q 8 121 [.ref 58, .int x1, .int x2, .int x3, .int x4, .int x5, .int x6, .float 0] [.int y0, .int y1] mu n := by
  refine J_iadd h dX8_plainRound_121 ?_
  refine J_istore h dX8_plainRound_122 (by decide) rfl ?_
  show J l G X Q 8 124 [.ref 58, .int x1, .int x2, .int x3, .int x4, .int x5, .int (y1 + y0), .float 0] [] mu n
  refine J_aload_n h dX8_plainRound_124 rfl rfl ?_
  refine J_getr (k := 12) h dX8_plainRound_125 jc8 rfl rfl (by decide) w996 ?_
  refine J_iload h dX8_plainRound_128 rfl ?_
  refine J_aload_n h dX8_plainRound_130 rfl rfl ?_
  refine J_getr (k := 42) h dX8_plainRound_131 jc8 rfl rfl (by decide) w1026 ?_
  refine J_iload h dX8_plainRound_134 rfl ?_
  refine J_zald h dX8_plainRound_136 rfl (s1) ?_
  refine J_zast h dX8_plainRound_137 rfl (s2) ?_
  refine J_aload_n h dX8_plainRound_138 rfl rfl ?_
  refine J_getr (k := 13) h dX8_plainRound_139 jc8 rfl rfl (by decide) w997 ?_
  refine J_iload h dX8_plainRound_142 rfl ?_
  refine J_aload_n h dX8_plainRound_144 rfl rfl ?_
  refine J_getr (k := 43) h dX8_plainRound_145 jc8 rfl rfl (by decide) w1027 ?_
  refine J_iload h dX8_plainRound_148 rfl ?_
  refine J_iald h dX8_plainRound_150 rfl (s3) ?_
  refine J_iast h dX8_plainRound_151 rfl (s4) ?_
  refine J_iinc h dX8_plainRound_152 rfl (cc_1 _) (by decide) rfl ?_
  show J l G X Q 8 155 [.ref 58, .int x1, .int x2, .int x3, .int x4, .int (x5 + 1), .int (y1 + y0), .float 0] [] (wr (wr mu 67 (x5).toNatClampNeg (vp_nar .boolean (mu 91 ((y1 + y0)).toNatClampNeg))) 68 (x5).toNatClampNeg (mu 92 ((y1 + y0)).toNatClampNeg)) n
  refine J_goto (tgt := 89) h dX8_plainRound_155 (by decide) ?_
  exact k5
theorem rX8_plainRound_243 {l : Launch} {G : jG} {X : jX} {Q : State → Prop} {n hg nc : Nat} {ret : Option FieldType} {mu : jM} {x1 : Int32} {x2 : Int32} {x3 : Int32} {x4 : Int32} {x5 : Int32} {x6 : Int32} {y0 : Int32} {y1 : Int32} {y3 : Int32} {Qc : Int32 → jM → Prop} {h' : Nat} (h : jOk l G X cX8_plainRound 8 ret RX8 hg nc) (hM : jCi l G yX8_towards cX8_towards 3 h' (some .int) (.ref 58 :: [.int y1, .int y0]) mu Qc) (hh : h' < hg ∧ 3 ≤ 21) (hn : n ≤ nc)
    (kk : ∀ v mu', Qc v mu' → J l G X Q 8 246 [.ref 58, .int x1, .int x2, .int x3, .int x4, .int x5, .int x6, .float 0] (.int v :: [.int y3]) mu' n) :
    J l G X Q 8 243 [.ref 58, .int x1, .int x2, .int x3, .int x4, .int x5, .int x6, .float 0] [.int y0, .int y1, .ref 58, .int y3] mu n :=
  J_callVi (As := [.int y1, .int y0]) (rest := [.int y3]) h dX8_plainRound_243 hM (jgV w1223 w1225 w46 w84 w1226) rfl (ci := 8) rfl rfl nmX8_towards rfl hh (Nat.le_of_ble_eq_true rfl) rfl kk hn
theorem rX8_plainRound_168b {l : Launch} {G : jG} {X : jX} {Q : State → Prop} {n hg nc : Nat} {ret : Option FieldType} {mu : jM} {x1 : Int32} {x2 : Int32} {x3 : Int32} {x4 : Int32} {x5 : Int32} {x6 : Int32} (h : jOk l G X cX8_plainRound 8 ret RX8 hg nc) (s3 : ¬ 8 ≤ x5 → vp_in x5 8) (s4 : ¬ 8 ≤ x5 → vp_in ((8 * x4) + x5) 192)
    (k2 : 8 ≤ x5 → J l G X Q 8 204 [.ref 58, .int x1, .int x2, .int x3, .int x4, .int 0, .int x6, .float 0] [] mu n)
    (k5 : ¬ 8 ≤ x5 → J l G X Q 8 168 [.ref 58, .int x1, .int x2, .int x3, .int x4, .int (x5 + 1), .int x6, .float 0] [] (wr mu 64 (((8 * x4) + x5)).toNatClampNeg (mu 66 (x5).toNatClampNeg)) n) :
    J l G X Q 8 168 [.ref 58, .int x1, .int x2, .int x3, .int x4, .int x5, .int x6, .float 0] [] mu n := by
  refine J_iload h dX8_plainRound_168 rfl ?_
  refine J_bipush h dX8_plainRound_170 cb_8 ?_
  refine J_icmp_ge (tgt := 201) h dX8_plainRound_172 (by decide) (fun q1 => ?_) (fun q1 => ?_)
  · skip
    refine J_iconst h dX8_plainRound_201 ci_0 ?_
    refine J_istore h dX8_plainRound_202 (by decide) rfl ?_
    show J l G X Q 8 204 [.ref 58, .int x1, .int x2, .int x3, .int x4, .int 0, .int x6, .float 0] [] mu n
    exact k2 q1
  · skip
    refine J_aload_n h dX8_plainRound_175 rfl rfl ?_
    refine J_getr (k := 8) h dX8_plainRound_176 jc8 rfl rfl (by decide) w992 ?_
    refine J_bipush h dX8_plainRound_179 cb_8 ?_
    refine J_iload h dX8_plainRound_181 rfl ?_
    refine J_imul h dX8_plainRound_183 ?_
    refine J_iload h dX8_plainRound_184 rfl ?_
    refine J_iadd h dX8_plainRound_186 ?_
    refine J_aload_n h dX8_plainRound_187 rfl rfl ?_
    refine J_getr (k := 11) h dX8_plainRound_188 jc8 rfl rfl (by decide) w995 ?_
    refine J_iload h dX8_plainRound_191 rfl ?_
    refine J_iald h dX8_plainRound_193 rfl (s3 q1) ?_
    refine J_iast h dX8_plainRound_194 rfl (s4 q1) ?_
    refine J_iinc h dX8_plainRound_195 rfl (cc_1 _) (by decide) rfl ?_
    show J l G X Q 8 198 [.ref 58, .int x1, .int x2, .int x3, .int x4, .int (x5 + 1), .int x6, .float 0] [] (wr mu 64 (((8 * x4) + x5)).toNatClampNeg (mu 66 (x5).toNatClampNeg)) n
    refine J_goto (tgt := 168) h dX8_plainRound_198 (by decide) ?_
    exact k5 q1
theorem rX8_plainRound_246 {l : Launch} {G : jG} {X : jX} {Q : State → Prop} {n hg nc : Nat} {ret : Option FieldType} {mu : jM} {x1 : Int32} {x2 : Int32} {x3 : Int32} {x4 : Int32} {x5 : Int32} {x6 : Int32} {y0 : Int32} {y1 : Int32} (h : jOk l G X cX8_plainRound 8 ret RX8 hg nc) (s1 : vp_in x5 24) (s4 : ¬ (mu 69 (x5).toNatClampNeg) = 0 → vp_in (y1 + y0) 240) (s5 : ¬ (mu 69 (x5).toNatClampNeg) = 0 → vp_in x5 24) (s6 : ¬ (mu 69 (x5).toNatClampNeg) = 0 → vp_in (y1 + y0) 240)
    (k3 : (mu 69 (x5).toNatClampNeg) = 0 → J l G X Q 8 281 [.ref 58, .int x1, .int x2, .int x3, .int x4, .int x5, .int x6, .int (y1 + y0)] [] mu n)
    (k7 : ¬ (mu 69 (x5).toNatClampNeg) = 0 → J l G X Q 8 281 [.ref 58, .int x1, .int x2, .int x3, .int x4, .int x5, .int x6, .int (y1 + y0)] [] (wr (wr mu 91 ((y1 + y0)).toNatClampNeg (vp_nar .boolean 1)) 92 ((y1 + y0)).toNatClampNeg (mu 70 (x5).toNatClampNeg)) n) :
    J l G X Q 8 246 [.ref 58, .int x1, .int x2, .int x3, .int x4, .int x5, .int x6, .float 0] [.int y0, .int y1] mu n := by
  refine J_iadd h dX8_plainRound_246 ?_
  refine J_istore h dX8_plainRound_247 (by decide) rfl ?_
  show J l G X Q 8 249 [.ref 58, .int x1, .int x2, .int x3, .int x4, .int x5, .int x6, .int (y1 + y0)] [] mu n
  refine J_aload_n h dX8_plainRound_249 rfl rfl ?_
  refine J_getr (k := 14) h dX8_plainRound_250 jc8 rfl rfl (by decide) w998 ?_
  refine J_iload h dX8_plainRound_253 rfl ?_
  refine J_zald h dX8_plainRound_255 rfl (s1) ?_
  refine J_if_eq (tgt := 281) h dX8_plainRound_256 (by decide) (fun q2 => ?_) (fun q2 => ?_)
  · skip
    exact k3 q2
  · skip
    refine J_aload_n h dX8_plainRound_259 rfl rfl ?_
    refine J_getr (k := 42) h dX8_plainRound_260 jc8 rfl rfl (by decide) w1026 ?_
    refine J_iload h dX8_plainRound_263 rfl ?_
    refine J_iconst h dX8_plainRound_265 ci_1 ?_
    refine J_zast h dX8_plainRound_266 rfl (s4 q2) ?_
    refine J_aload_n h dX8_plainRound_267 rfl rfl ?_
    refine J_getr (k := 43) h dX8_plainRound_268 jc8 rfl rfl (by decide) w1027 ?_
    refine J_iload h dX8_plainRound_271 rfl ?_
    refine J_aload_n h dX8_plainRound_273 rfl rfl ?_
    refine J_getr (k := 15) h dX8_plainRound_274 jc8 rfl rfl (by decide) w999 ?_
    refine J_iload h dX8_plainRound_277 rfl ?_
    refine J_iald h dX8_plainRound_279 rfl (s5 q2) ?_
    refine J_iast h dX8_plainRound_280 rfl (s6 q2) ?_
    exact k7 q2
theorem rX8_plainRound_204b {l : Launch} {G : jG} {X : jX} {Q : State → Prop} {n hg nc : Nat} {ret : Option FieldType} {mu : jM} {x1 : Int32} {x2 : Int32} {x3 : Int32} {x4 : Int32} {x5 : Int32} {x6 : Int32} (h : jOk l G X cX8_plainRound 8 ret RX8 hg nc) (s1 : vp_in x4 24) (s4 : ¬ (mu 61 (x4).toNatClampNeg) ≤ x5 → vp_in ((24 * x4) + x5) 576)
    (k3 : (mu 61 (x4).toNatClampNeg) ≤ x5 → J l G X Q 8 41 [.ref 58, .int x1, .int x2, .int x3, .int (x4 + 1), .int x5, .int x6, .float 0] [] mu n)
    (k5 : ¬ (mu 61 (x4).toNatClampNeg) ≤ x5 → J l G X Q 8 240 [.ref 58, .int x1, .int x2, .int x3, .int x4, .int x5, .int (mu 62 (((24 * x4) + x5)).toNatClampNeg), .float 0] [.int x4, .int (mu 62 (((24 * x4) + x5)).toNatClampNeg), .ref 58, .int (mu 62 (((24 * x4) + x5)).toNatClampNeg), .ref 58, .int x2] mu n) :
    J l G X Q 8 204 [.ref 58, .int x1, .int x2, .int x3, .int x4, .int x5, .int x6, .float 0] [] mu n := by
  refine J_iload h dX8_plainRound_204 rfl ?_
  refine J_aload_n h dX8_plainRound_206 rfl rfl ?_
  refine J_getr (k := 5) h dX8_plainRound_207 jc8 rfl rfl (by decide) w989 ?_
  refine J_iload h dX8_plainRound_210 rfl ?_
  refine J_iald h dX8_plainRound_212 rfl (s1) ?_
  refine J_icmp_ge (tgt := 287) h dX8_plainRound_213 (by decide) (fun q2 => ?_) (fun q2 => ?_)
  · skip
    refine J_iinc h dX8_plainRound_287 rfl (cc_1 _) (by decide) rfl ?_
    show J l G X Q 8 290 [.ref 58, .int x1, .int x2, .int x3, .int (x4 + 1), .int x5, .int x6, .float 0] [] mu n
    refine J_goto (tgt := 41) h dX8_plainRound_290 (by decide) ?_
    exact k3 q2
  · skip
    refine J_aload_n h dX8_plainRound_216 rfl rfl ?_
    refine J_getr (k := 6) h dX8_plainRound_217 jc8 rfl rfl (by decide) w990 ?_
    refine J_bipush h dX8_plainRound_220 cb_24 ?_
    refine J_iload h dX8_plainRound_222 rfl ?_
    refine J_imul h dX8_plainRound_224 ?_
    refine J_iload h dX8_plainRound_225 rfl ?_
    refine J_iadd h dX8_plainRound_227 ?_
    refine J_iald h dX8_plainRound_228 rfl (s4 q2) ?_
    refine J_istore h dX8_plainRound_229 (by decide) rfl ?_
    show J l G X Q 8 231 [.ref 58, .int x1, .int x2, .int x3, .int x4, .int x5, .int (mu 62 (((24 * x4) + x5)).toNatClampNeg), .float 0] [] mu n
    refine J_iload_n h dX8_plainRound_231 rfl rfl ?_
    refine J_aload_n h dX8_plainRound_232 rfl rfl ?_
    refine J_iload h dX8_plainRound_233 rfl ?_
    refine J_aload_n h dX8_plainRound_235 rfl rfl ?_
    refine J_iload h dX8_plainRound_236 rfl ?_
    refine J_iload h dX8_plainRound_238 rfl ?_
    exact k5 q2
theorem rX8_plainRound_281 {l : Launch} {G : jG} {X : jX} {Q : State → Prop} {n hg nc : Nat} {ret : Option FieldType} {mu : jM} {x1 : Int32} {x2 : Int32} {x3 : Int32} {x4 : Int32} {x5 : Int32} {x6 : Int32} {x7 : Int32} (h : jOk l G X cX8_plainRound 8 ret RX8 hg nc)
    (k1 : J l G X Q 8 204 [.ref 58, .int x1, .int x2, .int x3, .int x4, .int (x5 + 1), .int x6, .int x7] [] mu n) :
    J l G X Q 8 281 [.ref 58, .int x1, .int x2, .int x3, .int x4, .int x5, .int x6, .int x7] [] mu n := by
  refine J_iinc h dX8_plainRound_281 rfl (cc_1 _) (by decide) rfl ?_
  show J l G X Q 8 284 [.ref 58, .int x1, .int x2, .int x3, .int x4, .int (x5 + 1), .int x6, .int x7] [] mu n
  refine J_goto (tgt := 204) h dX8_plainRound_284 (by decide) ?_
  exact k1
theorem rX8_plainRound_41c {l : Launch} {G : jG} {X : jX} {Q : State → Prop} {n hg nc : Nat} {ret : Option FieldType} {mu : jM} {x1 : Int32} {x2 : Int32} {x3 : Int32} {x4 : Int32} {x5 : Int32} {x6 : Int32} (h : jOk l G X cX8_plainRound 8 ret RX8 hg nc)
    (k2 : (mu 58 1) ≤ x4 → J l G X Q 8 293 [.ref 58, .int x1, .int x2, .int x3, .int x4, .int x5, .int x6, .float 0] [] mu n)
    (k3 : ¬ (mu 58 1) ≤ x4 → J l G X Q 8 53 [.ref 58, .int x1, .int x2, .int x3, .int x4, .int 0, .int x6, .float 0] [] mu n) :
    J l G X Q 8 41 [.ref 58, .int x1, .int x2, .int x3, .int x4, .int x5, .int x6, .float 0] [] mu n := by
  refine J_iload h dX8_plainRound_41 rfl ?_
  refine J_aload_n h dX8_plainRound_43 rfl rfl ?_
  refine J_geti (k := 1) h dX8_plainRound_44 jc8 rfl rfl (by decide) w985 ?_
  refine J_icmp_ge (tgt := 293) h dX8_plainRound_47 (by decide) (fun q1 => ?_) (fun q1 => ?_)
  · skip
    exact k2 q1
  · skip
    refine J_iconst h dX8_plainRound_50 ci_0 ?_
    refine J_istore h dX8_plainRound_51 (by decide) rfl ?_
    show J l G X Q 8 53 [.ref 58, .int x1, .int x2, .int x3, .int x4, .int 0, .int x6, .float 0] [] mu n
    exact k3 q1
theorem rX8_plainRound_204c {l : Launch} {G : jG} {X : jX} {Q : State → Prop} {n hg nc : Nat} {ret : Option FieldType} {mu : jM} {x1 : Int32} {x2 : Int32} {x3 : Int32} {x4 : Int32} {x5 : Int32} {x6 : Int32} {x7 : Int32} (h : jOk l G X cX8_plainRound 8 ret RX8 hg nc) (s1 : vp_in x4 24) (s4 : ¬ (mu 61 (x4).toNatClampNeg) ≤ x5 → vp_in ((24 * x4) + x5) 576)
    (k3 : (mu 61 (x4).toNatClampNeg) ≤ x5 → J l G X Q 8 41 [.ref 58, .int x1, .int x2, .int x3, .int (x4 + 1), .int x5, .int x6, .int x7] [] mu n)
    (k5 : ¬ (mu 61 (x4).toNatClampNeg) ≤ x5 → J l G X Q 8 240 [.ref 58, .int x1, .int x2, .int x3, .int x4, .int x5, .int (mu 62 (((24 * x4) + x5)).toNatClampNeg), .int x7] [.int x4, .int (mu 62 (((24 * x4) + x5)).toNatClampNeg), .ref 58, .int (mu 62 (((24 * x4) + x5)).toNatClampNeg), .ref 58, .int x2] mu n) :
    J l G X Q 8 204 [.ref 58, .int x1, .int x2, .int x3, .int x4, .int x5, .int x6, .int x7] [] mu n := by
  refine J_iload h dX8_plainRound_204 rfl ?_
  refine J_aload_n h dX8_plainRound_206 rfl rfl ?_
  refine J_getr (k := 5) h dX8_plainRound_207 jc8 rfl rfl (by decide) w989 ?_
  refine J_iload h dX8_plainRound_210 rfl ?_
  refine J_iald h dX8_plainRound_212 rfl (s1) ?_
  refine J_icmp_ge (tgt := 287) h dX8_plainRound_213 (by decide) (fun q2 => ?_) (fun q2 => ?_)
  · skip
    refine J_iinc h dX8_plainRound_287 rfl (cc_1 _) (by decide) rfl ?_
    show J l G X Q 8 290 [.ref 58, .int x1, .int x2, .int x3, .int (x4 + 1), .int x5, .int x6, .int x7] [] mu n
    refine J_goto (tgt := 41) h dX8_plainRound_290 (by decide) ?_
    exact k3 q2
  · skip
    refine J_aload_n h dX8_plainRound_216 rfl rfl ?_
    refine J_getr (k := 6) h dX8_plainRound_217 jc8 rfl rfl (by decide) w990 ?_
    refine J_bipush h dX8_plainRound_220 cb_24 ?_
    refine J_iload h dX8_plainRound_222 rfl ?_
    refine J_imul h dX8_plainRound_224 ?_
    refine J_iload h dX8_plainRound_225 rfl ?_
    refine J_iadd h dX8_plainRound_227 ?_
    refine J_iald h dX8_plainRound_228 rfl (s4 q2) ?_
    refine J_istore h dX8_plainRound_229 (by decide) rfl ?_
    show J l G X Q 8 231 [.ref 58, .int x1, .int x2, .int x3, .int x4, .int x5, .int (mu 62 (((24 * x4) + x5)).toNatClampNeg), .int x7] [] mu n
    refine J_iload_n h dX8_plainRound_231 rfl rfl ?_
    refine J_aload_n h dX8_plainRound_232 rfl rfl ?_
    refine J_iload h dX8_plainRound_233 rfl ?_
    refine J_aload_n h dX8_plainRound_235 rfl rfl ?_
    refine J_iload h dX8_plainRound_236 rfl ?_
    refine J_iload h dX8_plainRound_238 rfl ?_
    exact k5 q2
theorem rX8_plainRound_53b {l : Launch} {G : jG} {X : jX} {Q : State → Prop} {n hg nc : Nat} {ret : Option FieldType} {mu : jM} {x1 : Int32} {x2 : Int32} {x3 : Int32} {x4 : Int32} {x5 : Int32} {x6 : Int32} (h : jOk l G X cX8_plainRound 8 ret RX8 hg nc) (s3 : ¬ 8 ≤ x5 → vp_in ((8 * x4) + x5) 192) (s4 : ¬ 8 ≤ x5 → vp_in x5 8)
    (k2 : 8 ≤ x5 → J l G X Q 8 89 [.ref 58, .int x1, .int x2, .int x3, .int x4, .int 0, .int x6, .float 0] [] mu n)
    (k5 : ¬ 8 ≤ x5 → J l G X Q 8 53 [.ref 58, .int x1, .int x2, .int x3, .int x4, .int (x5 + 1), .int x6, .float 0] [] (wr mu 66 (x5).toNatClampNeg (mu 64 (((8 * x4) + x5)).toNatClampNeg)) n) :
    J l G X Q 8 53 [.ref 58, .int x1, .int x2, .int x3, .int x4, .int x5, .int x6, .float 0] [] mu n := by
  refine J_iload h dX8_plainRound_53 rfl ?_
  refine J_bipush h dX8_plainRound_55 cb_8 ?_
  refine J_icmp_ge (tgt := 86) h dX8_plainRound_57 (by decide) (fun q1 => ?_) (fun q1 => ?_)
  · skip
    refine J_iconst h dX8_plainRound_86 ci_0 ?_
    refine J_istore h dX8_plainRound_87 (by decide) rfl ?_
    show J l G X Q 8 89 [.ref 58, .int x1, .int x2, .int x3, .int x4, .int 0, .int x6, .float 0] [] mu n
    exact k2 q1
  · skip
    refine J_aload_n h dX8_plainRound_60 rfl rfl ?_
    refine J_getr (k := 11) h dX8_plainRound_61 jc8 rfl rfl (by decide) w995 ?_
    refine J_iload h dX8_plainRound_64 rfl ?_
    refine J_aload_n h dX8_plainRound_66 rfl rfl ?_
    refine J_getr (k := 8) h dX8_plainRound_67 jc8 rfl rfl (by decide) w992 ?_
    refine J_bipush h dX8_plainRound_70 cb_8 ?_
    refine J_iload h dX8_plainRound_72 rfl ?_
    refine J_imul h dX8_plainRound_74 ?_
    refine J_iload h dX8_plainRound_75 rfl ?_
    refine J_iadd h dX8_plainRound_77 ?_
    refine J_iald h dX8_plainRound_78 rfl (s3 q1) ?_
    refine J_iast h dX8_plainRound_79 rfl (s4 q1) ?_
    refine J_iinc h dX8_plainRound_80 rfl (cc_1 _) (by decide) rfl ?_
    show J l G X Q 8 83 [.ref 58, .int x1, .int x2, .int x3, .int x4, .int (x5 + 1), .int x6, .float 0] [] (wr mu 66 (x5).toNatClampNeg (mu 64 (((8 * x4) + x5)).toNatClampNeg)) n
    refine J_goto (tgt := 53) h dX8_plainRound_83 (by decide) ?_
    exact k5 q1
theorem rX8_plainRound_41d {l : Launch} {G : jG} {X : jX} {Q : State → Prop} {n hg nc : Nat} {ret : Option FieldType} {mu : jM} {x1 : Int32} {x2 : Int32} {x3 : Int32} {x4 : Int32} {x5 : Int32} {x6 : Int32} {x7 : Int32} (h : jOk l G X cX8_plainRound 8 ret RX8 hg nc)
    (k2 : (mu 58 1) ≤ x4 → J l G X Q 8 293 [.ref 58, .int x1, .int x2, .int x3, .int x4, .int x5, .int x6, .int x7] [] mu n)
    (k3 : ¬ (mu 58 1) ≤ x4 → J l G X Q 8 53 [.ref 58, .int x1, .int x2, .int x3, .int x4, .int 0, .int x6, .int x7] [] mu n) :
    J l G X Q 8 41 [.ref 58, .int x1, .int x2, .int x3, .int x4, .int x5, .int x6, .int x7] [] mu n := by
  refine J_iload h dX8_plainRound_41 rfl ?_
  refine J_aload_n h dX8_plainRound_43 rfl rfl ?_
  refine J_geti (k := 1) h dX8_plainRound_44 jc8 rfl rfl (by decide) w985 ?_
  refine J_icmp_ge (tgt := 293) h dX8_plainRound_47 (by decide) (fun q1 => ?_) (fun q1 => ?_)
  · skip
    exact k2 q1
  · skip
    refine J_iconst h dX8_plainRound_50 ci_0 ?_
    refine J_istore h dX8_plainRound_51 (by decide) rfl ?_
    show J l G X Q 8 53 [.ref 58, .int x1, .int x2, .int x3, .int x4, .int 0, .int x6, .int x7] [] mu n
    exact k3 q1
theorem rX8_plainRound_240b {l : Launch} {G : jG} {X : jX} {Q : State → Prop} {n hg nc : Nat} {ret : Option FieldType} {mu : jM} {x1 : Int32} {x2 : Int32} {x3 : Int32} {x4 : Int32} {x5 : Int32} {x6 : Int32} {x7 : Int32} {y0 : Int32} {y1 : Int32} {y3 : Int32} {y5 : Int32} {Qc : Int32 → jM → Prop} {h' : Nat} (h : jOk l G X cX8_plainRound 8 ret RX8 hg nc) (hM : jCi l G yX8_otherEnd cX8_otherEnd 3 h' (some .int) (.ref 58 :: [.int y1, .int y0]) mu Qc) (hh : h' < hg ∧ 3 ≤ 21) (hn : n ≤ nc)
    (kk : ∀ v mu', Qc v mu' → J l G X Q 8 243 [.ref 58, .int x1, .int x2, .int x3, .int x4, .int x5, .int x6, .int x7] (.int v :: [.int y3, .ref 58, .int y5]) mu' n) :
    J l G X Q 8 240 [.ref 58, .int x1, .int x2, .int x3, .int x4, .int x5, .int x6, .int x7] [.int y0, .int y1, .ref 58, .int y3, .ref 58, .int y5] mu n :=
  J_callVi (As := [.int y1, .int y0]) (rest := [.int y3, .ref 58, .int y5]) h dX8_plainRound_240 hM (jgV w1245 w1247 w50 w84 w1248) rfl (ci := 8) rfl rfl nmX8_otherEnd rfl hh (Nat.le_of_ble_eq_true rfl) rfl kk hn
theorem rX8_plainRound_53c {l : Launch} {G : jG} {X : jX} {Q : State → Prop} {n hg nc : Nat} {ret : Option FieldType} {mu : jM} {x1 : Int32} {x2 : Int32} {x3 : Int32} {x4 : Int32} {x5 : Int32} {x6 : Int32} {x7 : Int32} (h : jOk l G X cX8_plainRound 8 ret RX8 hg nc) (s3 : ¬ 8 ≤ x5 → vp_in ((8 * x4) + x5) 192) (s4 : ¬ 8 ≤ x5 → vp_in x5 8)
    (k2 : 8 ≤ x5 → J l G X Q 8 89 [.ref 58, .int x1, .int x2, .int x3, .int x4, .int 0, .int x6, .int x7] [] mu n)
    (k5 : ¬ 8 ≤ x5 → J l G X Q 8 53 [.ref 58, .int x1, .int x2, .int x3, .int x4, .int (x5 + 1), .int x6, .int x7] [] (wr mu 66 (x5).toNatClampNeg (mu 64 (((8 * x4) + x5)).toNatClampNeg)) n) :
    J l G X Q 8 53 [.ref 58, .int x1, .int x2, .int x3, .int x4, .int x5, .int x6, .int x7] [] mu n := by
  refine J_iload h dX8_plainRound_53 rfl ?_
  refine J_bipush h dX8_plainRound_55 cb_8 ?_
  refine J_icmp_ge (tgt := 86) h dX8_plainRound_57 (by decide) (fun q1 => ?_) (fun q1 => ?_)
  · skip
    refine J_iconst h dX8_plainRound_86 ci_0 ?_
    refine J_istore h dX8_plainRound_87 (by decide) rfl ?_
    show J l G X Q 8 89 [.ref 58, .int x1, .int x2, .int x3, .int x4, .int 0, .int x6, .int x7] [] mu n
    exact k2 q1
  · skip
    refine J_aload_n h dX8_plainRound_60 rfl rfl ?_
    refine J_getr (k := 11) h dX8_plainRound_61 jc8 rfl rfl (by decide) w995 ?_
    refine J_iload h dX8_plainRound_64 rfl ?_
    refine J_aload_n h dX8_plainRound_66 rfl rfl ?_
    refine J_getr (k := 8) h dX8_plainRound_67 jc8 rfl rfl (by decide) w992 ?_
    refine J_bipush h dX8_plainRound_70 cb_8 ?_
    refine J_iload h dX8_plainRound_72 rfl ?_
    refine J_imul h dX8_plainRound_74 ?_
    refine J_iload h dX8_plainRound_75 rfl ?_
    refine J_iadd h dX8_plainRound_77 ?_
    refine J_iald h dX8_plainRound_78 rfl (s3 q1) ?_
    refine J_iast h dX8_plainRound_79 rfl (s4 q1) ?_
    refine J_iinc h dX8_plainRound_80 rfl (cc_1 _) (by decide) rfl ?_
    show J l G X Q 8 83 [.ref 58, .int x1, .int x2, .int x3, .int x4, .int (x5 + 1), .int x6, .int x7] [] (wr mu 66 (x5).toNatClampNeg (mu 64 (((8 * x4) + x5)).toNatClampNeg)) n
    refine J_goto (tgt := 53) h dX8_plainRound_83 (by decide) ?_
    exact k5 q1
theorem rX8_plainRound_243b {l : Launch} {G : jG} {X : jX} {Q : State → Prop} {n hg nc : Nat} {ret : Option FieldType} {mu : jM} {x1 : Int32} {x2 : Int32} {x3 : Int32} {x4 : Int32} {x5 : Int32} {x6 : Int32} {x7 : Int32} {y0 : Int32} {y1 : Int32} {y3 : Int32} {Qc : Int32 → jM → Prop} {h' : Nat} (h : jOk l G X cX8_plainRound 8 ret RX8 hg nc) (hM : jCi l G yX8_towards cX8_towards 3 h' (some .int) (.ref 58 :: [.int y1, .int y0]) mu Qc) (hh : h' < hg ∧ 3 ≤ 21) (hn : n ≤ nc)
    (kk : ∀ v mu', Qc v mu' → J l G X Q 8 246 [.ref 58, .int x1, .int x2, .int x3, .int x4, .int x5, .int x6, .int x7] (.int v :: [.int y3]) mu' n) :
    J l G X Q 8 243 [.ref 58, .int x1, .int x2, .int x3, .int x4, .int x5, .int x6, .int x7] [.int y0, .int y1, .ref 58, .int y3] mu n :=
  J_callVi (As := [.int y1, .int y0]) (rest := [.int y3]) h dX8_plainRound_243 hM (jgV w1223 w1225 w46 w84 w1226) rfl (ci := 8) rfl rfl nmX8_towards rfl hh (Nat.le_of_ble_eq_true rfl) rfl kk hn
theorem rX8_plainRound_89c {l : Launch} {G : jG} {X : jX} {Q : State → Prop} {n hg nc : Nat} {ret : Option FieldType} {mu : jM} {x1 : Int32} {x2 : Int32} {x3 : Int32} {x4 : Int32} {x5 : Int32} {x6 : Int32} {x7 : Int32} (h : jOk l G X cX8_plainRound 8 ret RX8 hg nc) (s1 : vp_in x4 24) (s4 : ¬ (mu 61 (x4).toNatClampNeg) ≤ x5 → vp_in ((24 * x4) + x5) 576)
    (k3 : (mu 61 (x4).toNatClampNeg) ≤ x5 → J l G X Q 8 162 [.ref 58, .int x1, .int x2, .int x3, .int x4, .int x5, .int x6, .int x7] [.int x1, .int x4, .ref 58] mu n)
    (k5 : ¬ (mu 61 (x4).toNatClampNeg) ≤ x5 → J l G X Q 8 118 [.ref 58, .int x1, .int x2, .int x3, .int x4, .int x5, .int x6, .int x7] [.int x4, .int (mu 62 (((24 * x4) + x5)).toNatClampNeg), .ref 58, .int x3] mu n) :
    J l G X Q 8 89 [.ref 58, .int x1, .int x2, .int x3, .int x4, .int x5, .int x6, .int x7] [] mu n := by
  refine J_iload h dX8_plainRound_89 rfl ?_
  refine J_aload_n h dX8_plainRound_91 rfl rfl ?_
  refine J_getr (k := 5) h dX8_plainRound_92 jc8 rfl rfl (by decide) w989 ?_
  refine J_iload h dX8_plainRound_95 rfl ?_
  refine J_iald h dX8_plainRound_97 rfl (s1) ?_
  refine J_icmp_ge (tgt := 158) h dX8_plainRound_98 (by decide) (fun q2 => ?_) (fun q2 => ?_)
  · skip
    refine J_aload_n h dX8_plainRound_158 rfl rfl ?_
    refine J_iload h dX8_plainRound_159 rfl ?_
    refine J_iload_n h dX8_plainRound_161 rfl rfl ?_
    exact k3 q2
  · skip
    refine J_iload_n h dX8_plainRound_101 rfl rfl ?_
    refine J_aload_n h dX8_plainRound_102 rfl rfl ?_
    refine J_aload_n h dX8_plainRound_103 rfl rfl ?_
    refine J_getr (k := 6) h dX8_plainRound_104 jc8 rfl rfl (by decide) w990 ?_
    refine J_bipush h dX8_plainRound_107 cb_24 ?_
    refine J_iload h dX8_plainRound_109 rfl ?_
    refine J_imul h dX8_plainRound_111 ?_
    refine J_iload h dX8_plainRound_112 rfl ?_
    refine J_iadd h dX8_plainRound_114 ?_
    refine J_iald h dX8_plainRound_115 rfl (s4 q2) ?_
    refine J_iload h dX8_plainRound_116 rfl ?_
    exact k5 q2
theorem rX8_plainRound_246b {l : Launch} {G : jG} {X : jX} {Q : State → Prop} {n hg nc : Nat} {ret : Option FieldType} {mu : jM} {x1 : Int32} {x2 : Int32} {x3 : Int32} {x4 : Int32} {x5 : Int32} {x6 : Int32} {x7 : Int32} {y0 : Int32} {y1 : Int32} (h : jOk l G X cX8_plainRound 8 ret RX8 hg nc) (s1 : vp_in x5 24) (s4 : ¬ (mu 69 (x5).toNatClampNeg) = 0 → vp_in (y1 + y0) 240) (s5 : ¬ (mu 69 (x5).toNatClampNeg) = 0 → vp_in x5 24) (s6 : ¬ (mu 69 (x5).toNatClampNeg) = 0 → vp_in (y1 + y0) 240)
    (k3 : (mu 69 (x5).toNatClampNeg) = 0 → J l G X Q 8 281 [.ref 58, .int x1, .int x2, .int x3, .int x4, .int x5, .int x6, .int (y1 + y0)] [] mu n)
    (k7 : ¬ (mu 69 (x5).toNatClampNeg) = 0 → J l G X Q 8 281 [.ref 58, .int x1, .int x2, .int x3, .int x4, .int x5, .int x6, .int (y1 + y0)] [] (wr (wr mu 91 ((y1 + y0)).toNatClampNeg (vp_nar .boolean 1)) 92 ((y1 + y0)).toNatClampNeg (mu 70 (x5).toNatClampNeg)) n) :
    J l G X Q 8 246 [.ref 58, .int x1, .int x2, .int x3, .int x4, .int x5, .int x6, .int x7] [.int y0, .int y1] mu n := by
  refine J_iadd h dX8_plainRound_246 ?_
  refine J_istore h dX8_plainRound_247 (by decide) rfl ?_
  show J l G X Q 8 249 [.ref 58, .int x1, .int x2, .int x3, .int x4, .int x5, .int x6, .int (y1 + y0)] [] mu n
  refine J_aload_n h dX8_plainRound_249 rfl rfl ?_
  refine J_getr (k := 14) h dX8_plainRound_250 jc8 rfl rfl (by decide) w998 ?_
  refine J_iload h dX8_plainRound_253 rfl ?_
  refine J_zald h dX8_plainRound_255 rfl (s1) ?_
  refine J_if_eq (tgt := 281) h dX8_plainRound_256 (by decide) (fun q2 => ?_) (fun q2 => ?_)
  · skip
    exact k3 q2
  · skip
    refine J_aload_n h dX8_plainRound_259 rfl rfl ?_
    refine J_getr (k := 42) h dX8_plainRound_260 jc8 rfl rfl (by decide) w1026 ?_
    refine J_iload h dX8_plainRound_263 rfl ?_
    refine J_iconst h dX8_plainRound_265 ci_1 ?_
    refine J_zast h dX8_plainRound_266 rfl (s4 q2) ?_
    refine J_aload_n h dX8_plainRound_267 rfl rfl ?_
    refine J_getr (k := 43) h dX8_plainRound_268 jc8 rfl rfl (by decide) w1027 ?_
    refine J_iload h dX8_plainRound_271 rfl ?_
    refine J_aload_n h dX8_plainRound_273 rfl rfl ?_
    refine J_getr (k := 15) h dX8_plainRound_274 jc8 rfl rfl (by decide) w999 ?_
    refine J_iload h dX8_plainRound_277 rfl ?_
    refine J_iald h dX8_plainRound_279 rfl (s5 q2) ?_
    refine J_iast h dX8_plainRound_280 rfl (s6 q2) ?_
    exact k7 q2
theorem rX8_plainRound_162c {l : Launch} {G : jG} {X : jX} {Q : State → Prop} {n hg nc : Nat} {ret : Option FieldType} {mu : jM} {x1 : Int32} {x2 : Int32} {x3 : Int32} {x4 : Int32} {x5 : Int32} {x6 : Int32} {x7 : Int32} {y0 : Int32} {y1 : Int32} {Qc : jM → Prop} {h' : Nat} (h : jOk l G X cX8_plainRound 8 ret RX8 hg nc) (hM : jCv l G yX8_doProgram cX8_doProgram 6 h' (.ref 58 :: [.int y1, .int y0]) mu Qc) (hh : h' < hg ∧ 6 ≤ 21) (hn : n ≤ nc)
    (kk : ∀ mu', Qc mu' → J l G X Q 8 165 [.ref 58, .int x1, .int x2, .int x3, .int x4, .int x5, .int x6, .int x7] [] mu' n) :
    J l G X Q 8 162 [.ref 58, .int x1, .int x2, .int x3, .int x4, .int x5, .int x6, .int x7] [.int y0, .int y1, .ref 58] mu n :=
  J_callV (As := [.int y1, .int y0]) (rest := []) h dX8_plainRound_162 hM (jgV w1227 w1229 w47 w84 w1230) rfl (ci := 8) rfl rfl nmX8_doProgram rfl hh (Nat.le_of_ble_eq_true rfl) rfl kk hn
theorem rX8_plainRound_118c {l : Launch} {G : jG} {X : jX} {Q : State → Prop} {n hg nc : Nat} {ret : Option FieldType} {mu : jM} {x1 : Int32} {x2 : Int32} {x3 : Int32} {x4 : Int32} {x5 : Int32} {x6 : Int32} {x7 : Int32} {y0 : Int32} {y1 : Int32} {y3 : Int32} {Qc : Int32 → jM → Prop} {h' : Nat} (h : jOk l G X cX8_plainRound 8 ret RX8 hg nc) (hM : jCi l G yX8_towards cX8_towards 3 h' (some .int) (.ref 58 :: [.int y1, .int y0]) mu Qc) (hh : h' < hg ∧ 3 ≤ 21) (hn : n ≤ nc)
    (kk : ∀ v mu', Qc v mu' → J l G X Q 8 121 [.ref 58, .int x1, .int x2, .int x3, .int x4, .int x5, .int x6, .int x7] (.int v :: [.int y3]) mu' n) :
    J l G X Q 8 118 [.ref 58, .int x1, .int x2, .int x3, .int x4, .int x5, .int x6, .int x7] [.int y0, .int y1, .ref 58, .int y3] mu n :=
  J_callVi (As := [.int y1, .int y0]) (rest := [.int y3]) h dX8_plainRound_118 hM (jgV w1223 w1225 w46 w84 w1226) rfl (ci := 8) rfl rfl nmX8_towards rfl hh (Nat.le_of_ble_eq_true rfl) rfl kk hn
theorem rX8_plainRound_165c {l : Launch} {G : jG} {X : jX} {Q : State → Prop} {n hg nc : Nat} {ret : Option FieldType} {mu : jM} {x1 : Int32} {x2 : Int32} {x3 : Int32} {x4 : Int32} {x5 : Int32} {x6 : Int32} {x7 : Int32} (h : jOk l G X cX8_plainRound 8 ret RX8 hg nc)
    (k1 : J l G X Q 8 168 [.ref 58, .int x1, .int x2, .int x3, .int x4, .int 0, .int x6, .int x7] [] mu n) :
    J l G X Q 8 165 [.ref 58, .int x1, .int x2, .int x3, .int x4, .int x5, .int x6, .int x7] [] mu n := by
  refine J_iconst h dX8_plainRound_165 ci_0 ?_
  refine J_istore h dX8_plainRound_166 (by decide) rfl ?_
  show J l G X Q 8 168 [.ref 58, .int x1, .int x2, .int x3, .int x4, .int 0, .int x6, .int x7] [] mu n
  exact k1
theorem rX8_plainRound_121c {l : Launch} {G : jG} {X : jX} {Q : State → Prop} {n hg nc : Nat} {ret : Option FieldType} {mu : jM} {x1 : Int32} {x2 : Int32} {x3 : Int32} {x4 : Int32} {x5 : Int32} {x6 : Int32} {x7 : Int32} {y0 : Int32} {y1 : Int32} (h : jOk l G X cX8_plainRound 8 ret RX8 hg nc) (s1 : vp_in (y1 + y0) 240) (s2 : vp_in x5 24) (s3 : vp_in (y1 + y0) 240) (s4 : vp_in x5 24)
    (k5 : J l G X Q 8 89 [.ref 58, .int x1, .int x2, .int x3, .int x4, .int (x5 + 1), .int (y1 + y0), .int x7] [] (wr (wr mu 67 (x5).toNatClampNeg (vp_nar .boolean (mu 91 ((y1 + y0)).toNatClampNeg))) 68 (x5).toNatClampNeg (mu 92 ((y1 + y0)).toNatClampNeg)) n) :
    J l G X Q 8 121 [.ref 58, .int x1, .int x2, .int x3, .int x4, .int x5, .int x6, .int x7] [.int y0, .int y1] mu n := by
  refine J_iadd h dX8_plainRound_121 ?_
  refine J_istore h dX8_plainRound_122 (by decide) rfl ?_
  show J l G X Q 8 124 [.ref 58, .int x1, .int x2, .int x3, .int x4, .int x5, .int (y1 + y0), .int x7] [] mu n
  refine J_aload_n h dX8_plainRound_124 rfl rfl ?_
  refine J_getr (k := 12) h dX8_plainRound_125 jc8 rfl rfl (by decide) w996 ?_
  refine J_iload h dX8_plainRound_128 rfl ?_
  refine J_aload_n h dX8_plainRound_130 rfl rfl ?_
  refine J_getr (k := 42) h dX8_plainRound_131 jc8 rfl rfl (by decide) w1026 ?_
  refine J_iload h dX8_plainRound_134 rfl ?_
  refine J_zald h dX8_plainRound_136 rfl (s1) ?_
  refine J_zast h dX8_plainRound_137 rfl (s2) ?_
  refine J_aload_n h dX8_plainRound_138 rfl rfl ?_
  refine J_getr (k := 13) h dX8_plainRound_139 jc8 rfl rfl (by decide) w997 ?_
  refine J_iload h dX8_plainRound_142 rfl ?_
  refine J_aload_n h dX8_plainRound_144 rfl rfl ?_
  refine J_getr (k := 43) h dX8_plainRound_145 jc8 rfl rfl (by decide) w1027 ?_
  refine J_iload h dX8_plainRound_148 rfl ?_
  refine J_iald h dX8_plainRound_150 rfl (s3) ?_
  refine J_iast h dX8_plainRound_151 rfl (s4) ?_
  refine J_iinc h dX8_plainRound_152 rfl (cc_1 _) (by decide) rfl ?_
  show J l G X Q 8 155 [.ref 58, .int x1, .int x2, .int x3, .int x4, .int (x5 + 1), .int (y1 + y0), .int x7] [] (wr (wr mu 67 (x5).toNatClampNeg (vp_nar .boolean (mu 91 ((y1 + y0)).toNatClampNeg))) 68 (x5).toNatClampNeg (mu 92 ((y1 + y0)).toNatClampNeg)) n
  refine J_goto (tgt := 89) h dX8_plainRound_155 (by decide) ?_
  exact k5
theorem rX8_plainRound_168c {l : Launch} {G : jG} {X : jX} {Q : State → Prop} {n hg nc : Nat} {ret : Option FieldType} {mu : jM} {x1 : Int32} {x2 : Int32} {x3 : Int32} {x4 : Int32} {x5 : Int32} {x6 : Int32} {x7 : Int32} (h : jOk l G X cX8_plainRound 8 ret RX8 hg nc) (s3 : ¬ 8 ≤ x5 → vp_in x5 8) (s4 : ¬ 8 ≤ x5 → vp_in ((8 * x4) + x5) 192)
    (k2 : 8 ≤ x5 → J l G X Q 8 204 [.ref 58, .int x1, .int x2, .int x3, .int x4, .int 0, .int x6, .int x7] [] mu n)
    (k5 : ¬ 8 ≤ x5 → J l G X Q 8 168 [.ref 58, .int x1, .int x2, .int x3, .int x4, .int (x5 + 1), .int x6, .int x7] [] (wr mu 64 (((8 * x4) + x5)).toNatClampNeg (mu 66 (x5).toNatClampNeg)) n) :
    J l G X Q 8 168 [.ref 58, .int x1, .int x2, .int x3, .int x4, .int x5, .int x6, .int x7] [] mu n := by
  refine J_iload h dX8_plainRound_168 rfl ?_
  refine J_bipush h dX8_plainRound_170 cb_8 ?_
  refine J_icmp_ge (tgt := 201) h dX8_plainRound_172 (by decide) (fun q1 => ?_) (fun q1 => ?_)
  · skip
    refine J_iconst h dX8_plainRound_201 ci_0 ?_
    refine J_istore h dX8_plainRound_202 (by decide) rfl ?_
    show J l G X Q 8 204 [.ref 58, .int x1, .int x2, .int x3, .int x4, .int 0, .int x6, .int x7] [] mu n
    exact k2 q1
  · skip
    refine J_aload_n h dX8_plainRound_175 rfl rfl ?_
    refine J_getr (k := 8) h dX8_plainRound_176 jc8 rfl rfl (by decide) w992 ?_
    refine J_bipush h dX8_plainRound_179 cb_8 ?_
    refine J_iload h dX8_plainRound_181 rfl ?_
    refine J_imul h dX8_plainRound_183 ?_
    refine J_iload h dX8_plainRound_184 rfl ?_
    refine J_iadd h dX8_plainRound_186 ?_
    refine J_aload_n h dX8_plainRound_187 rfl rfl ?_
    refine J_getr (k := 11) h dX8_plainRound_188 jc8 rfl rfl (by decide) w995 ?_
    refine J_iload h dX8_plainRound_191 rfl ?_
    refine J_iald h dX8_plainRound_193 rfl (s3 q1) ?_
    refine J_iast h dX8_plainRound_194 rfl (s4 q1) ?_
    refine J_iinc h dX8_plainRound_195 rfl (cc_1 _) (by decide) rfl ?_
    show J l G X Q 8 198 [.ref 58, .int x1, .int x2, .int x3, .int x4, .int (x5 + 1), .int x6, .int x7] [] (wr mu 64 (((8 * x4) + x5)).toNatClampNeg (mu 66 (x5).toNatClampNeg)) n
    refine J_goto (tgt := 168) h dX8_plainRound_198 (by decide) ?_
    exact k5 q1
/-! LockstepNetModel.plain(II)I -/
theorem rX8_plain_0 {l : Launch} {G : jG} {X : jX} {Q : State → Prop} {n hg nc : Nat} {ret : Option FieldType} {mu : jM} {x1 : Int32} {x2 : Int32} (h : jOk l G X cX8_plain 3 ret RX8 hg nc)
    (k1 : J l G X Q 3 3 [.ref 58, .int x1, .int x2] [.int x1, .ref 58, .ref 58] mu n) :
    J l G X Q 3 0 [.ref 58, .int x1, .int x2] [] mu n := by
  refine J_aload_n h dX8_plain_0 rfl rfl ?_
  refine J_aload_n h dX8_plain_1 rfl rfl ?_
  refine J_iload_n h dX8_plain_2 rfl rfl ?_
  exact k1
theorem rX8_plain_3 {l : Launch} {G : jG} {X : jX} {Q : State → Prop} {n hg nc : Nat} {ret : Option FieldType} {mu : jM} {x1 : Int32} {x2 : Int32} {y0 : Int32} {Qc : Int32 → jM → Prop} {h' : Nat} (h : jOk l G X cX8_plain 3 ret RX8 hg nc) (hM : jCi l G yX8_isNode cX8_isNode 2 h' (some .boolean) (.ref 58 :: [.int y0]) mu Qc) (hh : h' < hg ∧ 2 ≤ 21) (hn : n ≤ nc)
    (kk : ∀ v mu', Qc v mu' → J l G X Q 3 6 [.ref 58, .int x1, .int x2] (.int v :: [.ref 58]) mu' n) :
    J l G X Q 3 3 [.ref 58, .int x1, .int x2] [.int y0, .ref 58, .ref 58] mu n :=
  J_callVi (As := [.int y0]) (rest := [.ref 58]) h dX8_plain_3 hM (jgV w1130 w1132 w31 w84 w1133) rfl (ci := 8) rfl rfl nmX8_isNode rfl hh (Nat.le_of_ble_eq_true rfl) rfl kk hn
theorem rX8_plain_6 {l : Launch} {G : jG} {X : jX} {Q : State → Prop} {n hg nc : Nat} {ret : Option FieldType} {mu : jM} {x1 : Int32} {x2 : Int32} {y0 : Int32} (h : jOk l G X cX8_plain 3 ret RX8 hg nc)
    (k2 : ¬ y0 = 0 → J l G X Q 3 14 [.ref 58, .int x1, .int x2] [.int x2, .ref 58] mu n)
    (k4 : y0 = 0 → J l G X Q 3 50 [.ref 58, .int x1, .int x2] [.int 0] (wr mu 58 0 1) n) :
    J l G X Q 3 6 [.ref 58, .int x1, .int x2] [.int y0, .ref 58] mu n := by
  refine J_if_ne (tgt := 13) h dX8_plain_6 (by decide) (fun q1 => ?_) (fun q1 => ?_)
  · skip
    refine J_iload_n h dX8_plain_13 rfl rfl ?_
    exact k2 q1
  · skip
    refine J_iconst h dX8_plain_9 ci_1 ?_
    refine J_goto (tgt := 25) h dX8_plain_10 (by decide) ?_
    refine J_puti (k := 0) (ty0 := tyX8) h dX8_plain_25 jc8 tyX8_ok nmX8 rfl rfl (by decide) rfl rfl rfl w984 ?_
    refine J_aload_n h dX8_plain_28 rfl rfl ?_
    refine J_geti (k := 0) h dX8_plain_29 jc8 rfl rfl (by decide) w984 ?_
    refine J_if_le (tgt := 39) h dX8_plain_32 (by decide) (fun q3 => ?_) (fun q3 => ?_)
    · skip
      exact absurd (show (1 : Int32) ≤ (0 : Int32) from q3) (by decide)
    · skip
      refine J_iconst h dX8_plain_35 ci_0 ?_
      refine J_goto (tgt := 50) h dX8_plain_36 (by decide) ?_
      exact k4 q1
theorem rX8_plain_14 {l : Launch} {G : jG} {X : jX} {Q : State → Prop} {n hg nc : Nat} {ret : Option FieldType} {mu : jM} {x1 : Int32} {x2 : Int32} {y0 : Int32} {Qc : Int32 → jM → Prop} {h' : Nat} (h : jOk l G X cX8_plain 3 ret RX8 hg nc) (hM : jCi l G yX8_isRegister cX8_isRegister 1 h' (some .boolean) [.int y0] mu Qc) (hh : h' < hg ∧ 1 ≤ 21) (hn : n ≤ nc)
    (kk : ∀ v mu', Qc v mu' → J l G X Q 3 17 [.ref 58, .int x1, .int x2] (.int v :: [.ref 58]) mu' n) :
    J l G X Q 3 14 [.ref 58, .int x1, .int x2] [.int y0, .ref 58] mu n :=
  J_callSi (As := [.int y0]) (rest := [.ref 58]) h dX8_plain_14 hM (jgS w1198 w1199 w84 w1200) nmX8_isRegister rfl hh (Nat.le_of_ble_eq_true rfl) rfl kk hn
theorem rX8_plain_17 {l : Launch} {G : jG} {X : jX} {Q : State → Prop} {n hg nc : Nat} {ret : Option FieldType} {mu : jM} {x1 : Int32} {x2 : Int32} {y0 : Int32} (h : jOk l G X cX8_plain 3 ret RX8 hg nc) (s3 : ¬ y0 = 0 → vp_in ((8 * x1) + x2) 192)
    (k4 : ¬ y0 = 0 → J l G X Q 3 50 [.ref 58, .int x1, .int x2] [.int (mu 64 (((8 * x1) + x2)).toNatClampNeg)] (wr mu 58 0 0) n)
    (k6 : y0 = 0 → J l G X Q 3 50 [.ref 58, .int x1, .int x2] [.int 0] (wr mu 58 0 2) n) :
    J l G X Q 3 17 [.ref 58, .int x1, .int x2] [.int y0, .ref 58] mu n := by
  refine J_if_ne (tgt := 24) h dX8_plain_17 (by decide) (fun q1 => ?_) (fun q1 => ?_)
  · skip
    refine J_iconst h dX8_plain_24 ci_0 ?_
    refine J_puti (k := 0) (ty0 := tyX8) h dX8_plain_25 jc8 tyX8_ok nmX8 rfl rfl (by decide) rfl rfl rfl w984 ?_
    refine J_aload_n h dX8_plain_28 rfl rfl ?_
    refine J_geti (k := 0) h dX8_plain_29 jc8 rfl rfl (by decide) w984 ?_
    refine J_if_le (tgt := 39) h dX8_plain_32 (by decide) (fun q2 => ?_) (fun q2 => ?_)
    · skip
      refine J_aload_n h dX8_plain_39 rfl rfl ?_
      refine J_getr (k := 8) h dX8_plain_40 jc8 rfl rfl (by decide) w992 ?_
      refine J_bipush h dX8_plain_43 cb_8 ?_
      refine J_iload_n h dX8_plain_45 rfl rfl ?_
      refine J_imul h dX8_plain_46 ?_
      refine J_iload_n h dX8_plain_47 rfl rfl ?_
      refine J_iadd h dX8_plain_48 ?_
      refine J_iald h dX8_plain_49 rfl (s3 q1) ?_
      exact k4 q1
    · skip
      exact absurd (show ¬ (0 : Int32) ≤ (0 : Int32) from q2) (by decide)
  · skip
    refine J_iconst h dX8_plain_20 ci_2 ?_
    refine J_goto (tgt := 25) h dX8_plain_21 (by decide) ?_
    refine J_puti (k := 0) (ty0 := tyX8) h dX8_plain_25 jc8 tyX8_ok nmX8 rfl rfl (by decide) rfl rfl rfl w984 ?_
    refine J_aload_n h dX8_plain_28 rfl rfl ?_
    refine J_geti (k := 0) h dX8_plain_29 jc8 rfl rfl (by decide) w984 ?_
    refine J_if_le (tgt := 39) h dX8_plain_32 (by decide) (fun q5 => ?_) (fun q5 => ?_)
    · skip
      exact absurd (show (2 : Int32) ≤ (0 : Int32) from q5) (by decide)
    · skip
      refine J_iconst h dX8_plain_35 ci_0 ?_
      refine J_goto (tgt := 50) h dX8_plain_36 (by decide) ?_
      exact k6 q1
/-! LockstepNetModel.makeTree()Z -/
theorem rX8_makeTree_0 {l : Launch} {G : jG} {X : jX} {Q : State → Prop} {n hg nc : Nat} {ret : Option FieldType} {mu : jM} (h : jOk l G X cX8_makeTree 6 ret RX8 hg nc)
    (k1 : J l G X Q 6 2 [.ref 58, .int 0, .float 0, .float 0, .float 0, .float 0] [] mu n) :
    J l G X Q 6 0 [.ref 58, .float 0, .float 0, .float 0, .float 0, .float 0] [] mu n := by
  refine J_iconst h dX8_makeTree_0 ci_0 ?_
  refine J_istore_n h dX8_makeTree_1 rfl (by decide) rfl ?_
  show J l G X Q 6 2 [.ref 58, .int 0, .float 0, .float 0, .float 0, .float 0] [] mu n
  exact k1
theorem rX8_makeTree_2 {l : Launch} {G : jG} {X : jX} {Q : State → Prop} {n hg nc : Nat} {ret : Option FieldType} {mu : jM} {x1 : Int32} (h : jOk l G X cX8_makeTree 6 ret RX8 hg nc) (s5 : ¬ (mu 58 1) ≤ x1 → vp_in x1 24) (s6 : ¬ (mu 58 1) ≤ x1 → vp_in x1 24)
    (k3 : (mu 58 1) ≤ x1 → ¬ (mu 58 1) = 0 → J l G X Q 6 48 [.ref 58, .int 0, .float 0, .float 0, .float 0, .float 0] [] (wr mu 83 (0 : Int32).toNatClampNeg 0) n)
    (k4 : (mu 58 1) ≤ x1 → (mu 58 1) = 0 → J l G X Q 6 38 [.ref 58, .int x1, .float 0, .float 0, .float 0, .float 0] [.int 0] mu n)
    (k7 : ¬ (mu 58 1) ≤ x1 → J l G X Q 6 2 [.ref 58, .int (x1 + 1), .float 0, .float 0, .float 0, .float 0] [] (wr (wr mu 83 (x1).toNatClampNeg (-1)) 82 (x1).toNatClampNeg (-1)) n) :
    J l G X Q 6 2 [.ref 58, .int x1, .float 0, .float 0, .float 0, .float 0] [] mu n := by
  refine J_iload_n h dX8_makeTree_2 rfl rfl ?_
  refine J_aload_n h dX8_makeTree_3 rfl rfl ?_
  refine J_geti (k := 1) h dX8_makeTree_4 jc8 rfl rfl (by decide) w985 ?_
  refine J_icmp_ge (tgt := 30) h dX8_makeTree_7 (by decide) (fun q1 => ?_) (fun q1 => ?_)
  · skip
    refine J_aload_n h dX8_makeTree_30 rfl rfl ?_
    refine J_geti (k := 1) h dX8_makeTree_31 jc8 rfl rfl (by decide) w985 ?_
    refine J_if_ne (tgt := 39) h dX8_makeTree_34 (by decide) (fun q2 => ?_) (fun q2 => ?_)
    · skip
      refine J_aload_n h dX8_makeTree_39 rfl rfl ?_
      refine J_getr (k := 31) h dX8_makeTree_40 jc8 rfl rfl (by decide) w1015 ?_
      refine J_iconst h dX8_makeTree_43 ci_0 ?_
      refine J_iconst h dX8_makeTree_44 ci_0 ?_
      refine J_iast h dX8_makeTree_45 rfl (jin (by decide)) ?_
      refine J_iconst h dX8_makeTree_46 ci_0 ?_
      refine J_istore_n h dX8_makeTree_47 rfl (by decide) rfl ?_
      show J l G X Q 6 48 [.ref 58, .int 0, .float 0, .float 0, .float 0, .float 0] [] (wr mu 83 (0 : Int32).toNatClampNeg 0) n
      exact k3 q1 q2
    · skip
      refine J_iconst h dX8_makeTree_37 ci_0 ?_
      exact k4 q1 q2
  · skip
    refine J_aload_n h dX8_makeTree_10 rfl rfl ?_
    refine J_getr (k := 31) h dX8_makeTree_11 jc8 rfl rfl (by decide) w1015 ?_
    refine J_iload_n h dX8_makeTree_14 rfl rfl ?_
    refine J_iconst h dX8_makeTree_15 ci_m1 ?_
    refine J_iast h dX8_makeTree_16 rfl (s5 q1) ?_
    refine J_aload_n h dX8_makeTree_17 rfl rfl ?_
    refine J_getr (k := 30) h dX8_makeTree_18 jc8 rfl rfl (by decide) w1014 ?_
    refine J_iload_n h dX8_makeTree_21 rfl rfl ?_
    refine J_iconst h dX8_makeTree_22 ci_m1 ?_
    refine J_iast h dX8_makeTree_23 rfl (s6 q1) ?_
    refine J_iinc h dX8_makeTree_24 rfl (cc_1 _) (by decide) rfl ?_
    show J l G X Q 6 27 [.ref 58, .int (x1 + 1), .float 0, .float 0, .float 0, .float 0] [] (wr (wr mu 83 (x1).toNatClampNeg (-1)) 82 (x1).toNatClampNeg (-1)) n
    refine J_goto (tgt := 2) h dX8_makeTree_27 (by decide) ?_
    exact k7 q1
theorem rX8_makeTree_48 {l : Launch} {G : jG} {X : jX} {Q : State → Prop} {n hg nc : Nat} {ret : Option FieldType} {mu : jM} {x1 : Int32} (h : jOk l G X cX8_makeTree 6 ret RX8 hg nc)
    (k2 : (mu 58 1) ≤ x1 → J l G X Q 6 167 [.ref 58, .int 1, .int 0, .float 0, .float 0, .float 0] [] mu n)
    (k3 : ¬ (mu 58 1) ≤ x1 → J l G X Q 6 58 [.ref 58, .int x1, .int 0, .float 0, .float 0, .float 0] [] mu n) :
    J l G X Q 6 48 [.ref 58, .int x1, .float 0, .float 0, .float 0, .float 0] [] mu n := by
  refine J_iload_n h dX8_makeTree_48 rfl rfl ?_
  refine J_aload_n h dX8_makeTree_49 rfl rfl ?_
  refine J_geti (k := 1) h dX8_makeTree_50 jc8 rfl rfl (by decide) w985 ?_
  refine J_icmp_ge (tgt := 163) h dX8_makeTree_53 (by decide) (fun q1 => ?_) (fun q1 => ?_)
  · skip
    refine J_iconst h dX8_makeTree_163 ci_1 ?_
    refine J_istore_n h dX8_makeTree_164 rfl (by decide) rfl ?_
    show J l G X Q 6 165 [.ref 58, .int 1, .float 0, .float 0, .float 0, .float 0] [] mu n
    refine J_iconst h dX8_makeTree_165 ci_0 ?_
    refine J_istore_n h dX8_makeTree_166 rfl (by decide) rfl ?_
    show J l G X Q 6 167 [.ref 58, .int 1, .int 0, .float 0, .float 0, .float 0] [] mu n
    exact k2 q1
  · skip
    refine J_iconst h dX8_makeTree_56 ci_0 ?_
    refine J_istore_n h dX8_makeTree_57 rfl (by decide) rfl ?_
    show J l G X Q 6 58 [.ref 58, .int x1, .int 0, .float 0, .float 0, .float 0] [] mu n
    exact k3 q1
theorem rX8_makeTree_167 {l : Launch} {G : jG} {X : jX} {Q : State → Prop} {n hg nc : Nat} {ret : Option FieldType} {mu : jM} {x1 : Int32} {x2 : Int32} (h : jOk l G X cX8_makeTree 6 ret RX8 hg nc) (s5 : ¬ (mu 58 1) ≤ x2 → ¬ x1 = 0 → vp_in x2 24)
    (k2 : (mu 58 1) ≤ x2 → J l G X Q 6 271 [.ref 58, .int x1, .int x2, .float 0, .float 0, .float 0] [.int x1] mu n)
    (k4 : ¬ (mu 58 1) ≤ x2 → x1 = 0 → J l G X Q 6 193 [.ref 58, .int x1, .int x2, .float 0, .float 0, .float 0] [] mu n)
    (k7 : ¬ (mu 58 1) ≤ x2 → ¬ x1 = 0 → (mu 83 (x2).toNatClampNeg) = (-1) → J l G X Q 6 193 [.ref 58, .int x1, .int x2, .float 0, .float 0, .float 0] [] mu n)
    (k8 : ¬ (mu 58 1) ≤ x2 → ¬ x1 = 0 → ¬ (mu 83 (x2).toNatClampNeg) = (-1) → J l G X Q 6 202 [.ref 58, .int 1, .int x2, .int ((mu 58 1) - 1), .float 0, .float 0] [] mu n) :
    J l G X Q 6 167 [.ref 58, .int x1, .int x2, .float 0, .float 0, .float 0] [] mu n := by
  refine J_iload_n h dX8_makeTree_167 rfl rfl ?_
  refine J_aload_n h dX8_makeTree_168 rfl rfl ?_
  refine J_geti (k := 1) h dX8_makeTree_169 jc8 rfl rfl (by decide) w985 ?_
  refine J_icmp_ge (tgt := 270) h dX8_makeTree_172 (by decide) (fun q1 => ?_) (fun q1 => ?_)
  · skip
    refine J_iload_n h dX8_makeTree_270 rfl rfl ?_
    exact k2 q1
  · skip
    refine J_iload_n h dX8_makeTree_175 rfl rfl ?_
    refine J_if_eq (tgt := 193) h dX8_makeTree_176 (by decide) (fun q3 => ?_) (fun q3 => ?_)
    · skip
      exact k4 q1 q3
    · skip
      refine J_aload_n h dX8_makeTree_179 rfl rfl ?_
      refine J_getr (k := 31) h dX8_makeTree_180 jc8 rfl rfl (by decide) w1015 ?_
      refine J_iload_n h dX8_makeTree_183 rfl rfl ?_
      refine J_iald h dX8_makeTree_184 rfl (s5 q1 q3) ?_
      refine J_iconst h dX8_makeTree_185 ci_m1 ?_
      refine J_icmp_eq (tgt := 193) h dX8_makeTree_186 (by decide) (fun q6 => ?_) (fun q6 => ?_)
      · skip
        exact k7 q1 q3 q6
      · skip
        refine J_iconst h dX8_makeTree_189 ci_1 ?_
        refine J_goto (tgt := 194) h dX8_makeTree_190 (by decide) ?_
        refine J_istore_n h dX8_makeTree_194 rfl (by decide) rfl ?_
        show J l G X Q 6 195 [.ref 58, .int 1, .int x2, .float 0, .float 0, .float 0] [] mu n
        refine J_aload_n h dX8_makeTree_195 rfl rfl ?_
        refine J_geti (k := 1) h dX8_makeTree_196 jc8 rfl rfl (by decide) w985 ?_
        refine J_iconst h dX8_makeTree_199 ci_1 ?_
        refine J_isub h dX8_makeTree_200 ?_
        refine J_istore_n h dX8_makeTree_201 rfl (by decide) rfl ?_
        show J l G X Q 6 202 [.ref 58, .int 1, .int x2, .int ((mu 58 1) - 1), .float 0, .float 0] [] mu n
        exact k8 q1 q3 q6
theorem rX8_makeTree_58 {l : Launch} {G : jG} {X : jX} {Q : State → Prop} {n hg nc : Nat} {ret : Option FieldType} {mu : jM} {x1 : Int32} {x2 : Int32} (h : jOk l G X cX8_makeTree 6 ret RX8 hg nc)
    (k2 : (mu 58 2) ≤ x2 → J l G X Q 6 48 [.ref 58, .int (x1 + 1), .int x2, .float 0, .float 0, .float 0] [] mu n)
    (k3 : ¬ (mu 58 2) ≤ x2 → J l G X Q 6 68 [.ref 58, .int x1, .int x2, .int 0, .float 0, .float 0] [] mu n) :
    J l G X Q 6 58 [.ref 58, .int x1, .int x2, .float 0, .float 0, .float 0] [] mu n := by
  refine J_iload_n h dX8_makeTree_58 rfl rfl ?_
  refine J_aload_n h dX8_makeTree_59 rfl rfl ?_
  refine J_geti (k := 2) h dX8_makeTree_60 jc8 rfl rfl (by decide) w986 ?_
  refine J_icmp_ge (tgt := 157) h dX8_makeTree_63 (by decide) (fun q1 => ?_) (fun q1 => ?_)
  · skip
    refine J_iinc h dX8_makeTree_157 rfl (cc_1 _) (by decide) rfl ?_
    show J l G X Q 6 160 [.ref 58, .int (x1 + 1), .int x2, .float 0, .float 0, .float 0] [] mu n
    refine J_goto (tgt := 48) h dX8_makeTree_160 (by decide) ?_
    exact k2 q1
  · skip
    refine J_iconst h dX8_makeTree_66 ci_0 ?_
    refine J_istore_n h dX8_makeTree_67 rfl (by decide) rfl ?_
    show J l G X Q 6 68 [.ref 58, .int x1, .int x2, .int 0, .float 0, .float 0] [] mu n
    exact k3 q1
theorem rX8_makeTree_193 {l : Launch} {G : jG} {X : jX} {Q : State → Prop} {n hg nc : Nat} {ret : Option FieldType} {mu : jM} {x1 : Int32} {x2 : Int32} (h : jOk l G X cX8_makeTree 6 ret RX8 hg nc)
    (k1 : J l G X Q 6 202 [.ref 58, .int 0, .int x2, .int ((mu 58 1) - 1), .float 0, .float 0] [] mu n) :
    J l G X Q 6 193 [.ref 58, .int x1, .int x2, .float 0, .float 0, .float 0] [] mu n := by
  refine J_iconst h dX8_makeTree_193 ci_0 ?_
  refine J_istore_n h dX8_makeTree_194 rfl (by decide) rfl ?_
  show J l G X Q 6 195 [.ref 58, .int 0, .int x2, .float 0, .float 0, .float 0] [] mu n
  refine J_aload_n h dX8_makeTree_195 rfl rfl ?_
  refine J_geti (k := 1) h dX8_makeTree_196 jc8 rfl rfl (by decide) w985 ?_
  refine J_iconst h dX8_makeTree_199 ci_1 ?_
  refine J_isub h dX8_makeTree_200 ?_
  refine J_istore_n h dX8_makeTree_201 rfl (by decide) rfl ?_
  show J l G X Q 6 202 [.ref 58, .int 0, .int x2, .int ((mu 58 1) - 1), .float 0, .float 0] [] mu n
  exact k1
theorem rX8_makeTree_202 {l : Launch} {G : jG} {X : jX} {Q : State → Prop} {n hg nc : Nat} {ret : Option FieldType} {mu : jM} {x1 : Int32} {x2 : Int32} {x3 : Int32} (h : jOk l G X cX8_makeTree 6 ret RX8 hg nc) (s3 : ¬ x3 < 0 → vp_in x2 24) (s5 : ¬ x3 < 0 → (mu 83 (x2).toNatClampNeg) ≤ 0 → vp_in x2 24) (s6 : ¬ x3 < 0 → (mu 83 (x2).toNatClampNeg) ≤ 0 → vp_in x2 24) (s8 : ¬ x3 < 0 → ¬ (mu 83 (x2).toNatClampNeg) ≤ 0 → vp_in x3 24) (s9 : ¬ x3 < 0 → ¬ (mu 83 (x2).toNatClampNeg) ≤ 0 → vp_in x2 24) (s11 : ¬ x3 < 0 → ¬ (mu 83 (x2).toNatClampNeg) ≤ 0 → ¬ (mu 83 (x3).toNatClampNeg) = ((mu 83 (x2).toNatClampNeg) - 1) → vp_in x2 24) (s12 : ¬ x3 < 0 → ¬ (mu 83 (x2).toNatClampNeg) ≤ 0 → ¬ (mu 83 (x3).toNatClampNeg) = ((mu 83 (x2).toNatClampNeg) - 1) → vp_in x2 24)
    (k2 : x3 < 0 → J l G X Q 6 167 [.ref 58, .int x1, .int (x2 + 1), .int x3, .float 0, .float 0] [] mu n)
    (k7 : ¬ x3 < 0 → (mu 83 (x2).toNatClampNeg) ≤ 0 → J l G X Q 6 202 [.ref 58, .int x1, .int x2, .int (x3 + (-1)), .float 0, .float 0] [] (wr mu 82 (x2).toNatClampNeg (mu 82 (x2).toNatClampNeg)) n)
    (k13 : ¬ x3 < 0 → ¬ (mu 83 (x2).toNatClampNeg) ≤ 0 → ¬ (mu 83 (x3).toNatClampNeg) = ((mu 83 (x2).toNatClampNeg) - 1) → J l G X Q 6 202 [.ref 58, .int x1, .int x2, .int (x3 + (-1)), .float 0, .float 0] [] (wr mu 82 (x2).toNatClampNeg (mu 82 (x2).toNatClampNeg)) n)
    (k14 : ¬ x3 < 0 → ¬ (mu 83 (x2).toNatClampNeg) ≤ 0 → (mu 83 (x3).toNatClampNeg) = ((mu 83 (x2).toNatClampNeg) - 1) → J l G X Q 6 240 [.ref 58, .int x1, .int x2, .int x3, .float 0, .float 0] [.int x3, .int x2, .ref 58, .int x2, .ref 82] mu n) :
    J l G X Q 6 202 [.ref 58, .int x1, .int x2, .int x3, .float 0, .float 0] [] mu n := by
  refine J_iload_n h dX8_makeTree_202 rfl rfl ?_
  refine J_if_lt (tgt := 264) h dX8_makeTree_203 (by decide) (fun q1 => ?_) (fun q1 => ?_)
  · skip
    refine J_iinc h dX8_makeTree_264 rfl (cc_1 _) (by decide) rfl ?_
    show J l G X Q 6 267 [.ref 58, .int x1, .int (x2 + 1), .int x3, .float 0, .float 0] [] mu n
    refine J_goto (tgt := 167) h dX8_makeTree_267 (by decide) ?_
    exact k2 q1
  · skip
    refine J_aload_n h dX8_makeTree_206 rfl rfl ?_
    refine J_getr (k := 30) h dX8_makeTree_207 jc8 rfl rfl (by decide) w1014 ?_
    refine J_iload_n h dX8_makeTree_210 rfl rfl ?_
    refine J_aload_n h dX8_makeTree_211 rfl rfl ?_
    refine J_getr (k := 31) h dX8_makeTree_212 jc8 rfl rfl (by decide) w1015 ?_
    refine J_iload_n h dX8_makeTree_215 rfl rfl ?_
    refine J_iald h dX8_makeTree_216 rfl (s3 q1) ?_
    refine J_if_le (tgt := 251) h dX8_makeTree_217 (by decide) (fun q4 => ?_) (fun q4 => ?_)
    · skip
      refine J_aload_n h dX8_makeTree_251 rfl rfl ?_
      refine J_getr (k := 30) h dX8_makeTree_252 jc8 rfl rfl (by decide) w1014 ?_
      refine J_iload_n h dX8_makeTree_255 rfl rfl ?_
      refine J_iald h dX8_makeTree_256 rfl (s5 q1 q4) ?_
      refine J_iast h dX8_makeTree_257 rfl (s6 q1 q4) ?_
      refine J_iinc h dX8_makeTree_258 rfl (cc_m1 _) (by decide) rfl ?_
      show J l G X Q 6 261 [.ref 58, .int x1, .int x2, .int (x3 + (-1)), .float 0, .float 0] [] (wr mu 82 (x2).toNatClampNeg (mu 82 (x2).toNatClampNeg)) n
      refine J_goto (tgt := 202) h dX8_makeTree_261 (by decide) ?_
      exact k7 q1 q4
    · skip
      refine J_aload_n h dX8_makeTree_220 rfl rfl ?_
      refine J_getr (k := 31) h dX8_makeTree_221 jc8 rfl rfl (by decide) w1015 ?_
      refine J_iload_n h dX8_makeTree_224 rfl rfl ?_
      refine J_iald h dX8_makeTree_225 rfl (s8 q1 q4) ?_
      refine J_aload_n h dX8_makeTree_226 rfl rfl ?_
      refine J_getr (k := 31) h dX8_makeTree_227 jc8 rfl rfl (by decide) w1015 ?_
      refine J_iload_n h dX8_makeTree_230 rfl rfl ?_
      refine J_iald h dX8_makeTree_231 rfl (s9 q1 q4) ?_
      refine J_iconst h dX8_makeTree_232 ci_1 ?_
      refine J_isub h dX8_makeTree_233 ?_
      refine J_icmp_ne (tgt := 251) h dX8_makeTree_234 (by decide) (fun q10 => ?_) (fun q10 => ?_)
      · skip
        refine J_aload_n h dX8_makeTree_251 rfl rfl ?_
        refine J_getr (k := 30) h dX8_makeTree_252 jc8 rfl rfl (by decide) w1014 ?_
        refine J_iload_n h dX8_makeTree_255 rfl rfl ?_
        refine J_iald h dX8_makeTree_256 rfl (s11 q1 q4 q10) ?_
        refine J_iast h dX8_makeTree_257 rfl (s12 q1 q4 q10) ?_
        refine J_iinc h dX8_makeTree_258 rfl (cc_m1 _) (by decide) rfl ?_
        show J l G X Q 6 261 [.ref 58, .int x1, .int x2, .int (x3 + (-1)), .float 0, .float 0] [] (wr mu 82 (x2).toNatClampNeg (mu 82 (x2).toNatClampNeg)) n
        refine J_goto (tgt := 202) h dX8_makeTree_261 (by decide) ?_
        exact k13 q1 q4 q10
      · skip
        refine J_aload_n h dX8_makeTree_237 rfl rfl ?_
        refine J_iload_n h dX8_makeTree_238 rfl rfl ?_
        refine J_iload_n h dX8_makeTree_239 rfl rfl ?_
        exact k14 q1 q4 q10
theorem rX8_makeTree_48b {l : Launch} {G : jG} {X : jX} {Q : State → Prop} {n hg nc : Nat} {ret : Option FieldType} {mu : jM} {x1 : Int32} {x2 : Int32} (h : jOk l G X cX8_makeTree 6 ret RX8 hg nc)
    (k2 : (mu 58 1) ≤ x1 → J l G X Q 6 167 [.ref 58, .int 1, .int 0, .float 0, .float 0, .float 0] [] mu n)
    (k3 : ¬ (mu 58 1) ≤ x1 → J l G X Q 6 58 [.ref 58, .int x1, .int 0, .float 0, .float 0, .float 0] [] mu n) :
    J l G X Q 6 48 [.ref 58, .int x1, .int x2, .float 0, .float 0, .float 0] [] mu n := by
  refine J_iload_n h dX8_makeTree_48 rfl rfl ?_
  refine J_aload_n h dX8_makeTree_49 rfl rfl ?_
  refine J_geti (k := 1) h dX8_makeTree_50 jc8 rfl rfl (by decide) w985 ?_
  refine J_icmp_ge (tgt := 163) h dX8_makeTree_53 (by decide) (fun q1 => ?_) (fun q1 => ?_)
  · skip
    refine J_iconst h dX8_makeTree_163 ci_1 ?_
    refine J_istore_n h dX8_makeTree_164 rfl (by decide) rfl ?_
    show J l G X Q 6 165 [.ref 58, .int 1, .int x2, .float 0, .float 0, .float 0] [] mu n
    refine J_iconst h dX8_makeTree_165 ci_0 ?_
    refine J_istore_n h dX8_makeTree_166 rfl (by decide) rfl ?_
    show J l G X Q 6 167 [.ref 58, .int 1, .int 0, .float 0, .float 0, .float 0] [] mu n
    exact k2 q1
  · skip
    refine J_iconst h dX8_makeTree_56 ci_0 ?_
    refine J_istore_n h dX8_makeTree_57 rfl (by decide) rfl ?_
    show J l G X Q 6 58 [.ref 58, .int x1, .int 0, .float 0, .float 0, .float 0] [] mu n
    exact k3 q1
theorem rX8_makeTree_68 {l : Launch} {G : jG} {X : jX} {Q : State → Prop} {n hg nc : Nat} {ret : Option FieldType} {mu : jM} {x1 : Int32} {x2 : Int32} {x3 : Int32} (h : jOk l G X cX8_makeTree 6 ret RX8 hg nc) (s4 : ¬ 2 ≤ x3 → ¬ x3 = 0 → vp_in x2 60) (s6 : ¬ 2 ≤ x3 → x3 = 0 → vp_in x2 60)
    (k2 : 2 ≤ x3 → J l G X Q 6 58 [.ref 58, .int x1, .int (x2 + 1), .int x3, .float 0, .float 0] [] mu n)
    (k5 : ¬ 2 ≤ x3 → ¬ x3 = 0 → J l G X Q 6 98 [.ref 58, .int x1, .int x2, .int x3, .int (mu 60 (x2).toNatClampNeg), .float 0] [.int (mu 60 (x2).toNatClampNeg), .int x2, .ref 58] mu n)
    (k7 : ¬ 2 ≤ x3 → x3 = 0 → J l G X Q 6 98 [.ref 58, .int x1, .int x2, .int x3, .int (mu 59 (x2).toNatClampNeg), .float 0] [.int (mu 59 (x2).toNatClampNeg), .int x2, .ref 58] mu n) :
    J l G X Q 6 68 [.ref 58, .int x1, .int x2, .int x3, .float 0, .float 0] [] mu n := by
  refine J_iload_n h dX8_makeTree_68 rfl rfl ?_
  refine J_iconst h dX8_makeTree_69 ci_2 ?_
  refine J_icmp_ge (tgt := 151) h dX8_makeTree_70 (by decide) (fun q1 => ?_) (fun q1 => ?_)
  · skip
    refine J_iinc h dX8_makeTree_151 rfl (cc_1 _) (by decide) rfl ?_
    show J l G X Q 6 154 [.ref 58, .int x1, .int (x2 + 1), .int x3, .float 0, .float 0] [] mu n
    refine J_goto (tgt := 58) h dX8_makeTree_154 (by decide) ?_
    exact k2 q1
  · skip
    refine J_iload_n h dX8_makeTree_73 rfl rfl ?_
    refine J_if_ne (tgt := 86) h dX8_makeTree_74 (by decide) (fun q3 => ?_) (fun q3 => ?_)
    · skip
      refine J_aload_n h dX8_makeTree_86 rfl rfl ?_
      refine J_getr (k := 4) h dX8_makeTree_87 jc8 rfl rfl (by decide) w988 ?_
      refine J_iload_n h dX8_makeTree_90 rfl rfl ?_
      refine J_iald h dX8_makeTree_91 rfl (s4 q1 q3) ?_
      refine J_istore h dX8_makeTree_92 (by decide) rfl ?_
      show J l G X Q 6 94 [.ref 58, .int x1, .int x2, .int x3, .int (mu 60 (x2).toNatClampNeg), .float 0] [] mu n
      refine J_aload_n h dX8_makeTree_94 rfl rfl ?_
      refine J_iload_n h dX8_makeTree_95 rfl rfl ?_
      refine J_iload h dX8_makeTree_96 rfl ?_
      exact k5 q1 q3
    · skip
      refine J_aload_n h dX8_makeTree_77 rfl rfl ?_
      refine J_getr (k := 3) h dX8_makeTree_78 jc8 rfl rfl (by decide) w987 ?_
      refine J_iload_n h dX8_makeTree_81 rfl rfl ?_
      refine J_iald h dX8_makeTree_82 rfl (s6 q1 q3) ?_
      refine J_goto (tgt := 92) h dX8_makeTree_83 (by decide) ?_
      refine J_istore h dX8_makeTree_92 (by decide) rfl ?_
      show J l G X Q 6 94 [.ref 58, .int x1, .int x2, .int x3, .int (mu 59 (x2).toNatClampNeg), .float 0] [] mu n
      refine J_aload_n h dX8_makeTree_94 rfl rfl ?_
      refine J_iload_n h dX8_makeTree_95 rfl rfl ?_
      refine J_iload h dX8_makeTree_96 rfl ?_
      exact k7 q1 q3
theorem rX8_makeTree_167b {l : Launch} {G : jG} {X : jX} {Q : State → Prop} {n hg nc : Nat} {ret : Option FieldType} {mu : jM} {x1 : Int32} {x2 : Int32} {x3 : Int32} (h : jOk l G X cX8_makeTree 6 ret RX8 hg nc) (s5 : ¬ (mu 58 1) ≤ x2 → ¬ x1 = 0 → vp_in x2 24)
    (k2 : (mu 58 1) ≤ x2 → J l G X Q 6 271 [.ref 58, .int x1, .int x2, .int x3, .float 0, .float 0] [.int x1] mu n)
    (k4 : ¬ (mu 58 1) ≤ x2 → x1 = 0 → J l G X Q 6 193 [.ref 58, .int x1, .int x2, .int x3, .float 0, .float 0] [] mu n)
    (k7 : ¬ (mu 58 1) ≤ x2 → ¬ x1 = 0 → (mu 83 (x2).toNatClampNeg) = (-1) → J l G X Q 6 193 [.ref 58, .int x1, .int x2, .int x3, .float 0, .float 0] [] mu n)
    (k8 : ¬ (mu 58 1) ≤ x2 → ¬ x1 = 0 → ¬ (mu 83 (x2).toNatClampNeg) = (-1) → J l G X Q 6 202 [.ref 58, .int 1, .int x2, .int ((mu 58 1) - 1), .float 0, .float 0] [] mu n) :
    J l G X Q 6 167 [.ref 58, .int x1, .int x2, .int x3, .float 0, .float 0] [] mu n := by
  refine J_iload_n h dX8_makeTree_167 rfl rfl ?_
  refine J_aload_n h dX8_makeTree_168 rfl rfl ?_
  refine J_geti (k := 1) h dX8_makeTree_169 jc8 rfl rfl (by decide) w985 ?_
  refine J_icmp_ge (tgt := 270) h dX8_makeTree_172 (by decide) (fun q1 => ?_) (fun q1 => ?_)
  · skip
    refine J_iload_n h dX8_makeTree_270 rfl rfl ?_
    exact k2 q1
  · skip
    refine J_iload_n h dX8_makeTree_175 rfl rfl ?_
    refine J_if_eq (tgt := 193) h dX8_makeTree_176 (by decide) (fun q3 => ?_) (fun q3 => ?_)
    · skip
      exact k4 q1 q3
    · skip
      refine J_aload_n h dX8_makeTree_179 rfl rfl ?_
      refine J_getr (k := 31) h dX8_makeTree_180 jc8 rfl rfl (by decide) w1015 ?_
      refine J_iload_n h dX8_makeTree_183 rfl rfl ?_
      refine J_iald h dX8_makeTree_184 rfl (s5 q1 q3) ?_
      refine J_iconst h dX8_makeTree_185 ci_m1 ?_
      refine J_icmp_eq (tgt := 193) h dX8_makeTree_186 (by decide) (fun q6 => ?_) (fun q6 => ?_)
      · skip
        exact k7 q1 q3 q6
      · skip
        refine J_iconst h dX8_makeTree_189 ci_1 ?_
        refine J_goto (tgt := 194) h dX8_makeTree_190 (by decide) ?_
        refine J_istore_n h dX8_makeTree_194 rfl (by decide) rfl ?_
        show J l G X Q 6 195 [.ref 58, .int 1, .int x2, .int x3, .float 0, .float 0] [] mu n
        refine J_aload_n h dX8_makeTree_195 rfl rfl ?_
        refine J_geti (k := 1) h dX8_makeTree_196 jc8 rfl rfl (by decide) w985 ?_
        refine J_iconst h dX8_makeTree_199 ci_1 ?_
        refine J_isub h dX8_makeTree_200 ?_
        refine J_istore_n h dX8_makeTree_201 rfl (by decide) rfl ?_
        show J l G X Q 6 202 [.ref 58, .int 1, .int x2, .int ((mu 58 1) - 1), .float 0, .float 0] [] mu n
        exact k8 q1 q3 q6
theorem rX8_makeTree_240 {l : Launch} {G : jG} {X : jX} {Q : State → Prop} {n hg nc : Nat} {ret : Option FieldType} {mu : jM} {x1 : Int32} {x2 : Int32} {x3 : Int32} {y0 : Int32} {y1 : Int32} {y3 : Int32} {Qc : Int32 → jM → Prop} {h' : Nat} (h : jOk l G X cX8_makeTree 6 ret RX8 hg nc) (hM : jCi l G yX8_linkOf cX8_linkOf 5 h' (some .int) (.ref 58 :: [.int y1, .int y0]) mu Qc) (hh : h' < hg ∧ 5 ≤ 21) (hn : n ≤ nc)
    (kk : ∀ v mu', Qc v mu' → J l G X Q 6 243 [.ref 58, .int x1, .int x2, .int x3, .float 0, .float 0] (.int v :: [.int y3, .ref 82]) mu' n) :
    J l G X Q 6 240 [.ref 58, .int x1, .int x2, .int x3, .float 0, .float 0] [.int y0, .int y1, .ref 58, .int y3, .ref 82] mu n :=
  J_callVi (As := [.int y1, .int y0]) (rest := [.int y3, .ref 82]) h dX8_makeTree_240 hM (jgV w1134 w1136 w32 w84 w1137) rfl (ci := 8) rfl rfl nmX8_linkOf rfl hh (Nat.le_of_ble_eq_true rfl) rfl kk hn
theorem rX8_makeTree_58b {l : Launch} {G : jG} {X : jX} {Q : State → Prop} {n hg nc : Nat} {ret : Option FieldType} {mu : jM} {x1 : Int32} {x2 : Int32} {x3 : Int32} (h : jOk l G X cX8_makeTree 6 ret RX8 hg nc)
    (k2 : (mu 58 2) ≤ x2 → J l G X Q 6 48 [.ref 58, .int (x1 + 1), .int x2, .int x3, .float 0, .float 0] [] mu n)
    (k3 : ¬ (mu 58 2) ≤ x2 → J l G X Q 6 68 [.ref 58, .int x1, .int x2, .int 0, .float 0, .float 0] [] mu n) :
    J l G X Q 6 58 [.ref 58, .int x1, .int x2, .int x3, .float 0, .float 0] [] mu n := by
  refine J_iload_n h dX8_makeTree_58 rfl rfl ?_
  refine J_aload_n h dX8_makeTree_59 rfl rfl ?_
  refine J_geti (k := 2) h dX8_makeTree_60 jc8 rfl rfl (by decide) w986 ?_
  refine J_icmp_ge (tgt := 157) h dX8_makeTree_63 (by decide) (fun q1 => ?_) (fun q1 => ?_)
  · skip
    refine J_iinc h dX8_makeTree_157 rfl (cc_1 _) (by decide) rfl ?_
    show J l G X Q 6 160 [.ref 58, .int (x1 + 1), .int x2, .int x3, .float 0, .float 0] [] mu n
    refine J_goto (tgt := 48) h dX8_makeTree_160 (by decide) ?_
    exact k2 q1
  · skip
    refine J_iconst h dX8_makeTree_66 ci_0 ?_
    refine J_istore_n h dX8_makeTree_67 rfl (by decide) rfl ?_
    show J l G X Q 6 68 [.ref 58, .int x1, .int x2, .int 0, .float 0, .float 0] [] mu n
    exact k3 q1
theorem rX8_makeTree_98 {l : Launch} {G : jG} {X : jX} {Q : State → Prop} {n hg nc : Nat} {ret : Option FieldType} {mu : jM} {x1 : Int32} {x2 : Int32} {x3 : Int32} {x4 : Int32} {y0 : Int32} {y1 : Int32} {Qc : Int32 → jM → Prop} {h' : Nat} (h : jOk l G X cX8_makeTree 6 ret RX8 hg nc) (hM : jCi l G yX8_otherEnd cX8_otherEnd 3 h' (some .int) (.ref 58 :: [.int y1, .int y0]) mu Qc) (hh : h' < hg ∧ 3 ≤ 21) (hn : n ≤ nc)
    (kk : ∀ v mu', Qc v mu' → J l G X Q 6 101 [.ref 58, .int x1, .int x2, .int x3, .int x4, .float 0] (.int v :: []) mu' n) :
    J l G X Q 6 98 [.ref 58, .int x1, .int x2, .int x3, .int x4, .float 0] [.int y0, .int y1, .ref 58] mu n :=
  J_callVi (As := [.int y1, .int y0]) (rest := []) h dX8_makeTree_98 hM (jgV w1245 w1247 w50 w84 w1248) rfl (ci := 8) rfl rfl nmX8_otherEnd rfl hh (Nat.le_of_ble_eq_true rfl) rfl kk hn
theorem rX8_makeTree_193b {l : Launch} {G : jG} {X : jX} {Q : State → Prop} {n hg nc : Nat} {ret : Option FieldType} {mu : jM} {x1 : Int32} {x2 : Int32} {x3 : Int32} (h : jOk l G X cX8_makeTree 6 ret RX8 hg nc)
    (k1 : J l G X Q 6 202 [.ref 58, .int 0, .int x2, .int ((mu 58 1) - 1), .float 0, .float 0] [] mu n) :
    J l G X Q 6 193 [.ref 58, .int x1, .int x2, .int x3, .float 0, .float 0] [] mu n := by
  refine J_iconst h dX8_makeTree_193 ci_0 ?_
  refine J_istore_n h dX8_makeTree_194 rfl (by decide) rfl ?_
  show J l G X Q 6 195 [.ref 58, .int 0, .int x2, .int x3, .float 0, .float 0] [] mu n
  refine J_aload_n h dX8_makeTree_195 rfl rfl ?_
  refine J_geti (k := 1) h dX8_makeTree_196 jc8 rfl rfl (by decide) w985 ?_
  refine J_iconst h dX8_makeTree_199 ci_1 ?_
  refine J_isub h dX8_makeTree_200 ?_
  refine J_istore_n h dX8_makeTree_201 rfl (by decide) rfl ?_
  show J l G X Q 6 202 [.ref 58, .int 0, .int x2, .int ((mu 58 1) - 1), .float 0, .float 0] [] mu n
  exact k1
theorem rX8_makeTree_243 {l : Launch} {G : jG} {X : jX} {Q : State → Prop} {n hg nc : Nat} {ret : Option FieldType} {mu : jM} {x1 : Int32} {x2 : Int32} {x3 : Int32} {y0 : Int32} {y1 : Int32} (h : jOk l G X cX8_makeTree 6 ret RX8 hg nc) (s2 : y0 = (-1) → vp_in x2 24) (s3 : y0 = (-1) → vp_in y1 24) (s5 : ¬ y0 = (-1) → vp_in y1 24)
    (k4 : y0 = (-1) → J l G X Q 6 202 [.ref 58, .int x1, .int x2, .int (x3 + (-1)), .float 0, .float 0] [] (wr mu 82 (y1).toNatClampNeg (mu 82 (x2).toNatClampNeg)) n)
    (k6 : ¬ y0 = (-1) → J l G X Q 6 202 [.ref 58, .int x1, .int x2, .int (x3 + (-1)), .float 0, .float 0] [] (wr mu 82 (y1).toNatClampNeg x3) n) :
    J l G X Q 6 243 [.ref 58, .int x1, .int x2, .int x3, .float 0, .float 0] [.int y0, .int y1, .ref 82] mu n := by
  refine J_iconst h dX8_makeTree_243 ci_m1 ?_
  refine J_icmp_eq (tgt := 251) h dX8_makeTree_244 (by decide) (fun q1 => ?_) (fun q1 => ?_)
  · skip
    refine J_aload_n h dX8_makeTree_251 rfl rfl ?_
    refine J_getr (k := 30) h dX8_makeTree_252 jc8 rfl rfl (by decide) w1014 ?_
    refine J_iload_n h dX8_makeTree_255 rfl rfl ?_
    refine J_iald h dX8_makeTree_256 rfl (s2 q1) ?_
    refine J_iast h dX8_makeTree_257 rfl (s3 q1) ?_
    refine J_iinc h dX8_makeTree_258 rfl (cc_m1 _) (by decide) rfl ?_
    show J l G X Q 6 261 [.ref 58, .int x1, .int x2, .int (x3 + (-1)), .float 0, .float 0] [] (wr mu 82 (y1).toNatClampNeg (mu 82 (x2).toNatClampNeg)) n
    refine J_goto (tgt := 202) h dX8_makeTree_261 (by decide) ?_
    exact k4 q1
  · skip
    refine J_iload_n h dX8_makeTree_247 rfl rfl ?_
    refine J_goto (tgt := 257) h dX8_makeTree_248 (by decide) ?_
    refine J_iast h dX8_makeTree_257 rfl (s5 q1) ?_
    refine J_iinc h dX8_makeTree_258 rfl (cc_m1 _) (by decide) rfl ?_
    show J l G X Q 6 261 [.ref 58, .int x1, .int x2, .int (x3 + (-1)), .float 0, .float 0] [] (wr mu 82 (y1).toNatClampNeg x3) n
    refine J_goto (tgt := 202) h dX8_makeTree_261 (by decide) ?_
    exact k6 q1
theorem rX8_makeTree_48c {l : Launch} {G : jG} {X : jX} {Q : State → Prop} {n hg nc : Nat} {ret : Option FieldType} {mu : jM} {x1 : Int32} {x2 : Int32} {x3 : Int32} (h : jOk l G X cX8_makeTree 6 ret RX8 hg nc)
    (k2 : (mu 58 1) ≤ x1 → J l G X Q 6 167 [.ref 58, .int 1, .int 0, .int x3, .float 0, .float 0] [] mu n)
    (k3 : ¬ (mu 58 1) ≤ x1 → J l G X Q 6 58 [.ref 58, .int x1, .int 0, .int x3, .float 0, .float 0] [] mu n) :
    J l G X Q 6 48 [.ref 58, .int x1, .int x2, .int x3, .float 0, .float 0] [] mu n := by
  refine J_iload_n h dX8_makeTree_48 rfl rfl ?_
  refine J_aload_n h dX8_makeTree_49 rfl rfl ?_
  refine J_geti (k := 1) h dX8_makeTree_50 jc8 rfl rfl (by decide) w985 ?_
  refine J_icmp_ge (tgt := 163) h dX8_makeTree_53 (by decide) (fun q1 => ?_) (fun q1 => ?_)
  · skip
    refine J_iconst h dX8_makeTree_163 ci_1 ?_
    refine J_istore_n h dX8_makeTree_164 rfl (by decide) rfl ?_
    show J l G X Q 6 165 [.ref 58, .int 1, .int x2, .int x3, .float 0, .float 0] [] mu n
    refine J_iconst h dX8_makeTree_165 ci_0 ?_
    refine J_istore_n h dX8_makeTree_166 rfl (by decide) rfl ?_
    show J l G X Q 6 167 [.ref 58, .int 1, .int 0, .int x3, .float 0, .float 0] [] mu n
    exact k2 q1
  · skip
    refine J_iconst h dX8_makeTree_56 ci_0 ?_
    refine J_istore_n h dX8_makeTree_57 rfl (by decide) rfl ?_
    show J l G X Q 6 58 [.ref 58, .int x1, .int 0, .int x3, .float 0, .float 0] [] mu n
    exact k3 q1
theorem rX8_makeTree_101 {l : Launch} {G : jG} {X : jX} {Q : State → Prop} {n hg nc : Nat} {ret : Option FieldType} {mu : jM} {x1 : Int32} {x2 : Int32} {x3 : Int32} {x4 : Int32} {y0 : Int32} (h : jOk l G X cX8_makeTree 6 ret RX8 hg nc) (s1 : vp_in x4 24) (s3 : ¬ (mu 83 (x4).toNatClampNeg) = x1 → vp_in y0 24) (s4 : ¬ (mu 83 (x4).toNatClampNeg) = x1 → vp_in y0 24) (s6 : (mu 83 (x4).toNatClampNeg) = x1 → vp_in y0 24) (s8 : (mu 83 (x4).toNatClampNeg) = x1 → ¬ (mu 83 (y0).toNatClampNeg) = (-1) → vp_in y0 24) (s9 : (mu 83 (x4).toNatClampNeg) = x1 → ¬ (mu 83 (y0).toNatClampNeg) = (-1) → vp_in y0 24) (s11 : (mu 83 (x4).toNatClampNeg) = x1 → (mu 83 (y0).toNatClampNeg) = (-1) → vp_in y0 24)
    (k5 : ¬ (mu 83 (x4).toNatClampNeg) = x1 → J l G X Q 6 68 [.ref 58, .int x1, .int x2, .int (x3 + 1), .int x4, .int y0] [] (wr mu 83 (y0).toNatClampNeg (mu 83 (y0).toNatClampNeg)) n)
    (k10 : (mu 83 (x4).toNatClampNeg) = x1 → ¬ (mu 83 (y0).toNatClampNeg) = (-1) → J l G X Q 6 68 [.ref 58, .int x1, .int x2, .int (x3 + 1), .int x4, .int y0] [] (wr mu 83 (y0).toNatClampNeg (mu 83 (y0).toNatClampNeg)) n)
    (k12 : (mu 83 (x4).toNatClampNeg) = x1 → (mu 83 (y0).toNatClampNeg) = (-1) → J l G X Q 6 68 [.ref 58, .int x1, .int x2, .int (x3 + 1), .int x4, .int y0] [] (wr mu 83 (y0).toNatClampNeg (x1 + 1)) n) :
    J l G X Q 6 101 [.ref 58, .int x1, .int x2, .int x3, .int x4, .float 0] [.int y0] mu n := by
  refine J_istore h dX8_makeTree_101 (by decide) rfl ?_
  show J l G X Q 6 103 [.ref 58, .int x1, .int x2, .int x3, .int x4, .int y0] [] mu n
  refine J_aload_n h dX8_makeTree_103 rfl rfl ?_
  refine J_getr (k := 31) h dX8_makeTree_104 jc8 rfl rfl (by decide) w1015 ?_
  refine J_iload h dX8_makeTree_107 rfl ?_
  refine J_aload_n h dX8_makeTree_109 rfl rfl ?_
  refine J_getr (k := 31) h dX8_makeTree_110 jc8 rfl rfl (by decide) w1015 ?_
  refine J_iload h dX8_makeTree_113 rfl ?_
  refine J_iald h dX8_makeTree_115 rfl (s1) ?_
  refine J_iload_n h dX8_makeTree_116 rfl rfl ?_
  refine J_icmp_ne (tgt := 137) h dX8_makeTree_117 (by decide) (fun q2 => ?_) (fun q2 => ?_)
  · skip
    refine J_aload_n h dX8_makeTree_137 rfl rfl ?_
    refine J_getr (k := 31) h dX8_makeTree_138 jc8 rfl rfl (by decide) w1015 ?_
    refine J_iload h dX8_makeTree_141 rfl ?_
    refine J_iald h dX8_makeTree_143 rfl (s3 q2) ?_
    refine J_iast h dX8_makeTree_144 rfl (s4 q2) ?_
    refine J_iinc h dX8_makeTree_145 rfl (cc_1 _) (by decide) rfl ?_
    show J l G X Q 6 148 [.ref 58, .int x1, .int x2, .int (x3 + 1), .int x4, .int y0] [] (wr mu 83 (y0).toNatClampNeg (mu 83 (y0).toNatClampNeg)) n
    refine J_goto (tgt := 68) h dX8_makeTree_148 (by decide) ?_
    exact k5 q2
  · skip
    refine J_aload_n h dX8_makeTree_120 rfl rfl ?_
    refine J_getr (k := 31) h dX8_makeTree_121 jc8 rfl rfl (by decide) w1015 ?_
    refine J_iload h dX8_makeTree_124 rfl ?_
    refine J_iald h dX8_makeTree_126 rfl (s6 q2) ?_
    refine J_iconst h dX8_makeTree_127 ci_m1 ?_
    refine J_icmp_ne (tgt := 137) h dX8_makeTree_128 (by decide) (fun q7 => ?_) (fun q7 => ?_)
    · skip
      refine J_aload_n h dX8_makeTree_137 rfl rfl ?_
      refine J_getr (k := 31) h dX8_makeTree_138 jc8 rfl rfl (by decide) w1015 ?_
      refine J_iload h dX8_makeTree_141 rfl ?_
      refine J_iald h dX8_makeTree_143 rfl (s8 q2 q7) ?_
      refine J_iast h dX8_makeTree_144 rfl (s9 q2 q7) ?_
      refine J_iinc h dX8_makeTree_145 rfl (cc_1 _) (by decide) rfl ?_
      show J l G X Q 6 148 [.ref 58, .int x1, .int x2, .int (x3 + 1), .int x4, .int y0] [] (wr mu 83 (y0).toNatClampNeg (mu 83 (y0).toNatClampNeg)) n
      refine J_goto (tgt := 68) h dX8_makeTree_148 (by decide) ?_
      exact k10 q2 q7
    · skip
      refine J_iload_n h dX8_makeTree_131 rfl rfl ?_
      refine J_iconst h dX8_makeTree_132 ci_1 ?_
      refine J_iadd h dX8_makeTree_133 ?_
      refine J_goto (tgt := 144) h dX8_makeTree_134 (by decide) ?_
      refine J_iast h dX8_makeTree_144 rfl (s11 q2 q7) ?_
      refine J_iinc h dX8_makeTree_145 rfl (cc_1 _) (by decide) rfl ?_
      show J l G X Q 6 148 [.ref 58, .int x1, .int x2, .int (x3 + 1), .int x4, .int y0] [] (wr mu 83 (y0).toNatClampNeg (x1 + 1)) n
      refine J_goto (tgt := 68) h dX8_makeTree_148 (by decide) ?_
      exact k12 q2 q7
theorem rX8_makeTree_68b {l : Launch} {G : jG} {X : jX} {Q : State → Prop} {n hg nc : Nat} {ret : Option FieldType} {mu : jM} {x1 : Int32} {x2 : Int32} {x3 : Int32} {x4 : Int32} {x5 : Int32} (h : jOk l G X cX8_makeTree 6 ret RX8 hg nc) (s4 : ¬ 2 ≤ x3 → ¬ x3 = 0 → vp_in x2 60) (s6 : ¬ 2 ≤ x3 → x3 = 0 → vp_in x2 60)
    (k2 : 2 ≤ x3 → J l G X Q 6 58 [.ref 58, .int x1, .int (x2 + 1), .int x3, .int x4, .int x5] [] mu n)
    (k5 : ¬ 2 ≤ x3 → ¬ x3 = 0 → J l G X Q 6 98 [.ref 58, .int x1, .int x2, .int x3, .int (mu 60 (x2).toNatClampNeg), .int x5] [.int (mu 60 (x2).toNatClampNeg), .int x2, .ref 58] mu n)
    (k7 : ¬ 2 ≤ x3 → x3 = 0 → J l G X Q 6 98 [.ref 58, .int x1, .int x2, .int x3, .int (mu 59 (x2).toNatClampNeg), .int x5] [.int (mu 59 (x2).toNatClampNeg), .int x2, .ref 58] mu n) :
    J l G X Q 6 68 [.ref 58, .int x1, .int x2, .int x3, .int x4, .int x5] [] mu n := by
  refine J_iload_n h dX8_makeTree_68 rfl rfl ?_
  refine J_iconst h dX8_makeTree_69 ci_2 ?_
  refine J_icmp_ge (tgt := 151) h dX8_makeTree_70 (by decide) (fun q1 => ?_) (fun q1 => ?_)
  · skip
    refine J_iinc h dX8_makeTree_151 rfl (cc_1 _) (by decide) rfl ?_
    show J l G X Q 6 154 [.ref 58, .int x1, .int (x2 + 1), .int x3, .int x4, .int x5] [] mu n
    refine J_goto (tgt := 58) h dX8_makeTree_154 (by decide) ?_
    exact k2 q1
  · skip
    refine J_iload_n h dX8_makeTree_73 rfl rfl ?_
    refine J_if_ne (tgt := 86) h dX8_makeTree_74 (by decide) (fun q3 => ?_) (fun q3 => ?_)
    · skip
      refine J_aload_n h dX8_makeTree_86 rfl rfl ?_
      refine J_getr (k := 4) h dX8_makeTree_87 jc8 rfl rfl (by decide) w988 ?_
      refine J_iload_n h dX8_makeTree_90 rfl rfl ?_
      refine J_iald h dX8_makeTree_91 rfl (s4 q1 q3) ?_
      refine J_istore h dX8_makeTree_92 (by decide) rfl ?_
      show J l G X Q 6 94 [.ref 58, .int x1, .int x2, .int x3, .int (mu 60 (x2).toNatClampNeg), .int x5] [] mu n
      refine J_aload_n h dX8_makeTree_94 rfl rfl ?_
      refine J_iload_n h dX8_makeTree_95 rfl rfl ?_
      refine J_iload h dX8_makeTree_96 rfl ?_
      exact k5 q1 q3
    · skip
      refine J_aload_n h dX8_makeTree_77 rfl rfl ?_
      refine J_getr (k := 3) h dX8_makeTree_78 jc8 rfl rfl (by decide) w987 ?_
      refine J_iload_n h dX8_makeTree_81 rfl rfl ?_
      refine J_iald h dX8_makeTree_82 rfl (s6 q1 q3) ?_
      refine J_goto (tgt := 92) h dX8_makeTree_83 (by decide) ?_
      refine J_istore h dX8_makeTree_92 (by decide) rfl ?_
      show J l G X Q 6 94 [.ref 58, .int x1, .int x2, .int x3, .int (mu 59 (x2).toNatClampNeg), .int x5] [] mu n
      refine J_aload_n h dX8_makeTree_94 rfl rfl ?_
      refine J_iload_n h dX8_makeTree_95 rfl rfl ?_
      refine J_iload h dX8_makeTree_96 rfl ?_
      exact k7 q1 q3
theorem rX8_makeTree_58c {l : Launch} {G : jG} {X : jX} {Q : State → Prop} {n hg nc : Nat} {ret : Option FieldType} {mu : jM} {x1 : Int32} {x2 : Int32} {x3 : Int32} {x4 : Int32} {x5 : Int32} (h : jOk l G X cX8_makeTree 6 ret RX8 hg nc)
    (k2 : (mu 58 2) ≤ x2 → J l G X Q 6 48 [.ref 58, .int (x1 + 1), .int x2, .int x3, .int x4, .int x5] [] mu n)
    (k3 : ¬ (mu 58 2) ≤ x2 → J l G X Q 6 68 [.ref 58, .int x1, .int x2, .int 0, .int x4, .int x5] [] mu n) :
    J l G X Q 6 58 [.ref 58, .int x1, .int x2, .int x3, .int x4, .int x5] [] mu n := by
  refine J_iload_n h dX8_makeTree_58 rfl rfl ?_
  refine J_aload_n h dX8_makeTree_59 rfl rfl ?_
  refine J_geti (k := 2) h dX8_makeTree_60 jc8 rfl rfl (by decide) w986 ?_
  refine J_icmp_ge (tgt := 157) h dX8_makeTree_63 (by decide) (fun q1 => ?_) (fun q1 => ?_)
  · skip
    refine J_iinc h dX8_makeTree_157 rfl (cc_1 _) (by decide) rfl ?_
    show J l G X Q 6 160 [.ref 58, .int (x1 + 1), .int x2, .int x3, .int x4, .int x5] [] mu n
    refine J_goto (tgt := 48) h dX8_makeTree_160 (by decide) ?_
    exact k2 q1
  · skip
    refine J_iconst h dX8_makeTree_66 ci_0 ?_
    refine J_istore_n h dX8_makeTree_67 rfl (by decide) rfl ?_
    show J l G X Q 6 68 [.ref 58, .int x1, .int x2, .int 0, .int x4, .int x5] [] mu n
    exact k3 q1
theorem rX8_makeTree_98b {l : Launch} {G : jG} {X : jX} {Q : State → Prop} {n hg nc : Nat} {ret : Option FieldType} {mu : jM} {x1 : Int32} {x2 : Int32} {x3 : Int32} {x4 : Int32} {x5 : Int32} {y0 : Int32} {y1 : Int32} {Qc : Int32 → jM → Prop} {h' : Nat} (h : jOk l G X cX8_makeTree 6 ret RX8 hg nc) (hM : jCi l G yX8_otherEnd cX8_otherEnd 3 h' (some .int) (.ref 58 :: [.int y1, .int y0]) mu Qc) (hh : h' < hg ∧ 3 ≤ 21) (hn : n ≤ nc)
    (kk : ∀ v mu', Qc v mu' → J l G X Q 6 101 [.ref 58, .int x1, .int x2, .int x3, .int x4, .int x5] (.int v :: []) mu' n) :
    J l G X Q 6 98 [.ref 58, .int x1, .int x2, .int x3, .int x4, .int x5] [.int y0, .int y1, .ref 58] mu n :=
  J_callVi (As := [.int y1, .int y0]) (rest := []) h dX8_makeTree_98 hM (jgV w1245 w1247 w50 w84 w1248) rfl (ci := 8) rfl rfl nmX8_otherEnd rfl hh (Nat.le_of_ble_eq_true rfl) rfl kk hn
theorem rX8_makeTree_48d {l : Launch} {G : jG} {X : jX} {Q : State → Prop} {n hg nc : Nat} {ret : Option FieldType} {mu : jM} {x1 : Int32} {x2 : Int32} {x3 : Int32} {x4 : Int32} {x5 : Int32} (h : jOk l G X cX8_makeTree 6 ret RX8 hg nc)
    (k2 : (mu 58 1) ≤ x1 → J l G X Q 6 167 [.ref 58, .int 1, .int 0, .int x3, .int x4, .int x5] [] mu n)
    (k3 : ¬ (mu 58 1) ≤ x1 → J l G X Q 6 58 [.ref 58, .int x1, .int 0, .int x3, .int x4, .int x5] [] mu n) :
    J l G X Q 6 48 [.ref 58, .int x1, .int x2, .int x3, .int x4, .int x5] [] mu n := by
  refine J_iload_n h dX8_makeTree_48 rfl rfl ?_
  refine J_aload_n h dX8_makeTree_49 rfl rfl ?_
  refine J_geti (k := 1) h dX8_makeTree_50 jc8 rfl rfl (by decide) w985 ?_
  refine J_icmp_ge (tgt := 163) h dX8_makeTree_53 (by decide) (fun q1 => ?_) (fun q1 => ?_)
  · skip
    refine J_iconst h dX8_makeTree_163 ci_1 ?_
    refine J_istore_n h dX8_makeTree_164 rfl (by decide) rfl ?_
    show J l G X Q 6 165 [.ref 58, .int 1, .int x2, .int x3, .int x4, .int x5] [] mu n
    refine J_iconst h dX8_makeTree_165 ci_0 ?_
    refine J_istore_n h dX8_makeTree_166 rfl (by decide) rfl ?_
    show J l G X Q 6 167 [.ref 58, .int 1, .int 0, .int x3, .int x4, .int x5] [] mu n
    exact k2 q1
  · skip
    refine J_iconst h dX8_makeTree_56 ci_0 ?_
    refine J_istore_n h dX8_makeTree_57 rfl (by decide) rfl ?_
    show J l G X Q 6 58 [.ref 58, .int x1, .int 0, .int x3, .int x4, .int x5] [] mu n
    exact k3 q1
theorem rX8_makeTree_101b {l : Launch} {G : jG} {X : jX} {Q : State → Prop} {n hg nc : Nat} {ret : Option FieldType} {mu : jM} {x1 : Int32} {x2 : Int32} {x3 : Int32} {x4 : Int32} {x5 : Int32} {y0 : Int32} (h : jOk l G X cX8_makeTree 6 ret RX8 hg nc) (s1 : vp_in x4 24) (s3 : ¬ (mu 83 (x4).toNatClampNeg) = x1 → vp_in y0 24) (s4 : ¬ (mu 83 (x4).toNatClampNeg) = x1 → vp_in y0 24) (s6 : (mu 83 (x4).toNatClampNeg) = x1 → vp_in y0 24) (s8 : (mu 83 (x4).toNatClampNeg) = x1 → ¬ (mu 83 (y0).toNatClampNeg) = (-1) → vp_in y0 24) (s9 : (mu 83 (x4).toNatClampNeg) = x1 → ¬ (mu 83 (y0).toNatClampNeg) = (-1) → vp_in y0 24) (s11 : (mu 83 (x4).toNatClampNeg) = x1 → (mu 83 (y0).toNatClampNeg) = (-1) → vp_in y0 24)
    (k5 : ¬ (mu 83 (x4).toNatClampNeg) = x1 → J l G X Q 6 68 [.ref 58, .int x1, .int x2, .int (x3 + 1), .int x4, .int y0] [] (wr mu 83 (y0).toNatClampNeg (mu 83 (y0).toNatClampNeg)) n)
    (k10 : (mu 83 (x4).toNatClampNeg) = x1 → ¬ (mu 83 (y0).toNatClampNeg) = (-1) → J l G X Q 6 68 [.ref 58, .int x1, .int x2, .int (x3 + 1), .int x4, .int y0] [] (wr mu 83 (y0).toNatClampNeg (mu 83 (y0).toNatClampNeg)) n)
    (k12 : (mu 83 (x4).toNatClampNeg) = x1 → (mu 83 (y0).toNatClampNeg) = (-1) → J l G X Q 6 68 [.ref 58, .int x1, .int x2, .int (x3 + 1), .int x4, .int y0] [] (wr mu 83 (y0).toNatClampNeg (x1 + 1)) n) :
    J l G X Q 6 101 [.ref 58, .int x1, .int x2, .int x3, .int x4, .int x5] [.int y0] mu n := by
  refine J_istore h dX8_makeTree_101 (by decide) rfl ?_
  show J l G X Q 6 103 [.ref 58, .int x1, .int x2, .int x3, .int x4, .int y0] [] mu n
  refine J_aload_n h dX8_makeTree_103 rfl rfl ?_
  refine J_getr (k := 31) h dX8_makeTree_104 jc8 rfl rfl (by decide) w1015 ?_
  refine J_iload h dX8_makeTree_107 rfl ?_
  refine J_aload_n h dX8_makeTree_109 rfl rfl ?_
  refine J_getr (k := 31) h dX8_makeTree_110 jc8 rfl rfl (by decide) w1015 ?_
  refine J_iload h dX8_makeTree_113 rfl ?_
  refine J_iald h dX8_makeTree_115 rfl (s1) ?_
  refine J_iload_n h dX8_makeTree_116 rfl rfl ?_
  refine J_icmp_ne (tgt := 137) h dX8_makeTree_117 (by decide) (fun q2 => ?_) (fun q2 => ?_)
  · skip
    refine J_aload_n h dX8_makeTree_137 rfl rfl ?_
    refine J_getr (k := 31) h dX8_makeTree_138 jc8 rfl rfl (by decide) w1015 ?_
    refine J_iload h dX8_makeTree_141 rfl ?_
    refine J_iald h dX8_makeTree_143 rfl (s3 q2) ?_
    refine J_iast h dX8_makeTree_144 rfl (s4 q2) ?_
    refine J_iinc h dX8_makeTree_145 rfl (cc_1 _) (by decide) rfl ?_
    show J l G X Q 6 148 [.ref 58, .int x1, .int x2, .int (x3 + 1), .int x4, .int y0] [] (wr mu 83 (y0).toNatClampNeg (mu 83 (y0).toNatClampNeg)) n
    refine J_goto (tgt := 68) h dX8_makeTree_148 (by decide) ?_
    exact k5 q2
  · skip
    refine J_aload_n h dX8_makeTree_120 rfl rfl ?_
    refine J_getr (k := 31) h dX8_makeTree_121 jc8 rfl rfl (by decide) w1015 ?_
    refine J_iload h dX8_makeTree_124 rfl ?_
    refine J_iald h dX8_makeTree_126 rfl (s6 q2) ?_
    refine J_iconst h dX8_makeTree_127 ci_m1 ?_
    refine J_icmp_ne (tgt := 137) h dX8_makeTree_128 (by decide) (fun q7 => ?_) (fun q7 => ?_)
    · skip
      refine J_aload_n h dX8_makeTree_137 rfl rfl ?_
      refine J_getr (k := 31) h dX8_makeTree_138 jc8 rfl rfl (by decide) w1015 ?_
      refine J_iload h dX8_makeTree_141 rfl ?_
      refine J_iald h dX8_makeTree_143 rfl (s8 q2 q7) ?_
      refine J_iast h dX8_makeTree_144 rfl (s9 q2 q7) ?_
      refine J_iinc h dX8_makeTree_145 rfl (cc_1 _) (by decide) rfl ?_
      show J l G X Q 6 148 [.ref 58, .int x1, .int x2, .int (x3 + 1), .int x4, .int y0] [] (wr mu 83 (y0).toNatClampNeg (mu 83 (y0).toNatClampNeg)) n
      refine J_goto (tgt := 68) h dX8_makeTree_148 (by decide) ?_
      exact k10 q2 q7
    · skip
      refine J_iload_n h dX8_makeTree_131 rfl rfl ?_
      refine J_iconst h dX8_makeTree_132 ci_1 ?_
      refine J_iadd h dX8_makeTree_133 ?_
      refine J_goto (tgt := 144) h dX8_makeTree_134 (by decide) ?_
      refine J_iast h dX8_makeTree_144 rfl (s11 q2 q7) ?_
      refine J_iinc h dX8_makeTree_145 rfl (cc_1 _) (by decide) rfl ?_
      show J l G X Q 6 148 [.ref 58, .int x1, .int x2, .int (x3 + 1), .int x4, .int y0] [] (wr mu 83 (y0).toNatClampNeg (x1 + 1)) n
      refine J_goto (tgt := 68) h dX8_makeTree_148 (by decide) ?_
      exact k12 q2 q7
theorem rX8_makeTree_167c {l : Launch} {G : jG} {X : jX} {Q : State → Prop} {n hg nc : Nat} {ret : Option FieldType} {mu : jM} {x1 : Int32} {x2 : Int32} {x3 : Int32} {x4 : Int32} {x5 : Int32} (h : jOk l G X cX8_makeTree 6 ret RX8 hg nc) (s5 : ¬ (mu 58 1) ≤ x2 → ¬ x1 = 0 → vp_in x2 24)
    (k2 : (mu 58 1) ≤ x2 → J l G X Q 6 271 [.ref 58, .int x1, .int x2, .int x3, .int x4, .int x5] [.int x1] mu n)
    (k4 : ¬ (mu 58 1) ≤ x2 → x1 = 0 → J l G X Q 6 193 [.ref 58, .int x1, .int x2, .int x3, .int x4, .int x5] [] mu n)
    (k7 : ¬ (mu 58 1) ≤ x2 → ¬ x1 = 0 → (mu 83 (x2).toNatClampNeg) = (-1) → J l G X Q 6 193 [.ref 58, .int x1, .int x2, .int x3, .int x4, .int x5] [] mu n)
    (k8 : ¬ (mu 58 1) ≤ x2 → ¬ x1 = 0 → ¬ (mu 83 (x2).toNatClampNeg) = (-1) → J l G X Q 6 202 [.ref 58, .int 1, .int x2, .int ((mu 58 1) - 1), .int x4, .int x5] [] mu n) :
    J l G X Q 6 167 [.ref 58, .int x1, .int x2, .int x3, .int x4, .int x5] [] mu n := by
  refine J_iload_n h dX8_makeTree_167 rfl rfl ?_
  refine J_aload_n h dX8_makeTree_168 rfl rfl ?_
  refine J_geti (k := 1) h dX8_makeTree_169 jc8 rfl rfl (by decide) w985 ?_
  refine J_icmp_ge (tgt := 270) h dX8_makeTree_172 (by decide) (fun q1 => ?_) (fun q1 => ?_)
  · skip
    refine J_iload_n h dX8_makeTree_270 rfl rfl ?_
    exact k2 q1
  · skip
    refine J_iload_n h dX8_makeTree_175 rfl rfl ?_
    refine J_if_eq (tgt := 193) h dX8_makeTree_176 (by decide) (fun q3 => ?_) (fun q3 => ?_)
    · skip
      exact k4 q1 q3
    · skip
      refine J_aload_n h dX8_makeTree_179 rfl rfl ?_
      refine J_getr (k := 31) h dX8_makeTree_180 jc8 rfl rfl (by decide) w1015 ?_
      refine J_iload_n h dX8_makeTree_183 rfl rfl ?_
      refine J_iald h dX8_makeTree_184 rfl (s5 q1 q3) ?_
      refine J_iconst h dX8_makeTree_185 ci_m1 ?_
      refine J_icmp_eq (tgt := 193) h dX8_makeTree_186 (by decide) (fun q6 => ?_) (fun q6 => ?_)
      · skip
        exact k7 q1 q3 q6
      · skip
        refine J_iconst h dX8_makeTree_189 ci_1 ?_
        refine J_goto (tgt := 194) h dX8_makeTree_190 (by decide) ?_
        refine J_istore_n h dX8_makeTree_194 rfl (by decide) rfl ?_
        show J l G X Q 6 195 [.ref 58, .int 1, .int x2, .int x3, .int x4, .int x5] [] mu n
        refine J_aload_n h dX8_makeTree_195 rfl rfl ?_
        refine J_geti (k := 1) h dX8_makeTree_196 jc8 rfl rfl (by decide) w985 ?_
        refine J_iconst h dX8_makeTree_199 ci_1 ?_
        refine J_isub h dX8_makeTree_200 ?_
        refine J_istore_n h dX8_makeTree_201 rfl (by decide) rfl ?_
        show J l G X Q 6 202 [.ref 58, .int 1, .int x2, .int ((mu 58 1) - 1), .int x4, .int x5] [] mu n
        exact k8 q1 q3 q6
theorem rX8_makeTree_193c {l : Launch} {G : jG} {X : jX} {Q : State → Prop} {n hg nc : Nat} {ret : Option FieldType} {mu : jM} {x1 : Int32} {x2 : Int32} {x3 : Int32} {x4 : Int32} {x5 : Int32} (h : jOk l G X cX8_makeTree 6 ret RX8 hg nc)
    (k1 : J l G X Q 6 202 [.ref 58, .int 0, .int x2, .int ((mu 58 1) - 1), .int x4, .int x5] [] mu n) :
    J l G X Q 6 193 [.ref 58, .int x1, .int x2, .int x3, .int x4, .int x5] [] mu n := by
  refine J_iconst h dX8_makeTree_193 ci_0 ?_
  refine J_istore_n h dX8_makeTree_194 rfl (by decide) rfl ?_
  show J l G X Q 6 195 [.ref 58, .int 0, .int x2, .int x3, .int x4, .int x5] [] mu n
  refine J_aload_n h dX8_makeTree_195 rfl rfl ?_
  refine J_geti (k := 1) h dX8_makeTree_196 jc8 rfl rfl (by decide) w985 ?_
  refine J_iconst h dX8_makeTree_199 ci_1 ?_
  refine J_isub h dX8_makeTree_200 ?_
  refine J_istore_n h dX8_makeTree_201 rfl (by decide) rfl ?_
  show J l G X Q 6 202 [.ref 58, .int 0, .int x2, .int ((mu 58 1) - 1), .int x4, .int x5] [] mu n
  exact k1
theorem rX8_makeTree_202b {l : Launch} {G : jG} {X : jX} {Q : State → Prop} {n hg nc : Nat} {ret : Option FieldType} {mu : jM} {x1 : Int32} {x2 : Int32} {x3 : Int32} {x4 : Int32} {x5 : Int32} (h : jOk l G X cX8_makeTree 6 ret RX8 hg nc) (s3 : ¬ x3 < 0 → vp_in x2 24) (s5 : ¬ x3 < 0 → (mu 83 (x2).toNatClampNeg) ≤ 0 → vp_in x2 24) (s6 : ¬ x3 < 0 → (mu 83 (x2).toNatClampNeg) ≤ 0 → vp_in x2 24) (s8 : ¬ x3 < 0 → ¬ (mu 83 (x2).toNatClampNeg) ≤ 0 → vp_in x3 24) (s9 : ¬ x3 < 0 → ¬ (mu 83 (x2).toNatClampNeg) ≤ 0 → vp_in x2 24) (s11 : ¬ x3 < 0 → ¬ (mu 83 (x2).toNatClampNeg) ≤ 0 → ¬ (mu 83 (x3).toNatClampNeg) = ((mu 83 (x2).toNatClampNeg) - 1) → vp_in x2 24) (s12 : ¬ x3 < 0 → ¬ (mu 83 (x2).toNatClampNeg) ≤ 0 → ¬ (mu 83 (x3).toNatClampNeg) = ((mu 83 (x2).toNatClampNeg) - 1) → vp_in x2 24)
    (k2 : x3 < 0 → J l G X Q 6 167 [.ref 58, .int x1, .int (x2 + 1), .int x3, .int x4, .int x5] [] mu n)
    (k7 : ¬ x3 < 0 → (mu 83 (x2).toNatClampNeg) ≤ 0 → J l G X Q 6 202 [.ref 58, .int x1, .int x2, .int (x3 + (-1)), .int x4, .int x5] [] (wr mu 82 (x2).toNatClampNeg (mu 82 (x2).toNatClampNeg)) n)
    (k13 : ¬ x3 < 0 → ¬ (mu 83 (x2).toNatClampNeg) ≤ 0 → ¬ (mu 83 (x3).toNatClampNeg) = ((mu 83 (x2).toNatClampNeg) - 1) → J l G X Q 6 202 [.ref 58, .int x1, .int x2, .int (x3 + (-1)), .int x4, .int x5] [] (wr mu 82 (x2).toNatClampNeg (mu 82 (x2).toNatClampNeg)) n)
    (k14 : ¬ x3 < 0 → ¬ (mu 83 (x2).toNatClampNeg) ≤ 0 → (mu 83 (x3).toNatClampNeg) = ((mu 83 (x2).toNatClampNeg) - 1) → J l G X Q 6 240 [.ref 58, .int x1, .int x2, .int x3, .int x4, .int x5] [.int x3, .int x2, .ref 58, .int x2, .ref 82] mu n) :
    J l G X Q 6 202 [.ref 58, .int x1, .int x2, .int x3, .int x4, .int x5] [] mu n := by
  refine J_iload_n h dX8_makeTree_202 rfl rfl ?_
  refine J_if_lt (tgt := 264) h dX8_makeTree_203 (by decide) (fun q1 => ?_) (fun q1 => ?_)
  · skip
    refine J_iinc h dX8_makeTree_264 rfl (cc_1 _) (by decide) rfl ?_
    show J l G X Q 6 267 [.ref 58, .int x1, .int (x2 + 1), .int x3, .int x4, .int x5] [] mu n
    refine J_goto (tgt := 167) h dX8_makeTree_267 (by decide) ?_
    exact k2 q1
  · skip
    refine J_aload_n h dX8_makeTree_206 rfl rfl ?_
    refine J_getr (k := 30) h dX8_makeTree_207 jc8 rfl rfl (by decide) w1014 ?_
    refine J_iload_n h dX8_makeTree_210 rfl rfl ?_
    refine J_aload_n h dX8_makeTree_211 rfl rfl ?_
    refine J_getr (k := 31) h dX8_makeTree_212 jc8 rfl rfl (by decide) w1015 ?_
    refine J_iload_n h dX8_makeTree_215 rfl rfl ?_
    refine J_iald h dX8_makeTree_216 rfl (s3 q1) ?_
    refine J_if_le (tgt := 251) h dX8_makeTree_217 (by decide) (fun q4 => ?_) (fun q4 => ?_)
    · skip
      refine J_aload_n h dX8_makeTree_251 rfl rfl ?_
      refine J_getr (k := 30) h dX8_makeTree_252 jc8 rfl rfl (by decide) w1014 ?_
      refine J_iload_n h dX8_makeTree_255 rfl rfl ?_
      refine J_iald h dX8_makeTree_256 rfl (s5 q1 q4) ?_
      refine J_iast h dX8_makeTree_257 rfl (s6 q1 q4) ?_
      refine J_iinc h dX8_makeTree_258 rfl (cc_m1 _) (by decide) rfl ?_
      show J l G X Q 6 261 [.ref 58, .int x1, .int x2, .int (x3 + (-1)), .int x4, .int x5] [] (wr mu 82 (x2).toNatClampNeg (mu 82 (x2).toNatClampNeg)) n
      refine J_goto (tgt := 202) h dX8_makeTree_261 (by decide) ?_
      exact k7 q1 q4
    · skip
      refine J_aload_n h dX8_makeTree_220 rfl rfl ?_
      refine J_getr (k := 31) h dX8_makeTree_221 jc8 rfl rfl (by decide) w1015 ?_
      refine J_iload_n h dX8_makeTree_224 rfl rfl ?_
      refine J_iald h dX8_makeTree_225 rfl (s8 q1 q4) ?_
      refine J_aload_n h dX8_makeTree_226 rfl rfl ?_
      refine J_getr (k := 31) h dX8_makeTree_227 jc8 rfl rfl (by decide) w1015 ?_
      refine J_iload_n h dX8_makeTree_230 rfl rfl ?_
      refine J_iald h dX8_makeTree_231 rfl (s9 q1 q4) ?_
      refine J_iconst h dX8_makeTree_232 ci_1 ?_
      refine J_isub h dX8_makeTree_233 ?_
      refine J_icmp_ne (tgt := 251) h dX8_makeTree_234 (by decide) (fun q10 => ?_) (fun q10 => ?_)
      · skip
        refine J_aload_n h dX8_makeTree_251 rfl rfl ?_
        refine J_getr (k := 30) h dX8_makeTree_252 jc8 rfl rfl (by decide) w1014 ?_
        refine J_iload_n h dX8_makeTree_255 rfl rfl ?_
        refine J_iald h dX8_makeTree_256 rfl (s11 q1 q4 q10) ?_
        refine J_iast h dX8_makeTree_257 rfl (s12 q1 q4 q10) ?_
        refine J_iinc h dX8_makeTree_258 rfl (cc_m1 _) (by decide) rfl ?_
        show J l G X Q 6 261 [.ref 58, .int x1, .int x2, .int (x3 + (-1)), .int x4, .int x5] [] (wr mu 82 (x2).toNatClampNeg (mu 82 (x2).toNatClampNeg)) n
        refine J_goto (tgt := 202) h dX8_makeTree_261 (by decide) ?_
        exact k13 q1 q4 q10
      · skip
        refine J_aload_n h dX8_makeTree_237 rfl rfl ?_
        refine J_iload_n h dX8_makeTree_238 rfl rfl ?_
        refine J_iload_n h dX8_makeTree_239 rfl rfl ?_
        exact k14 q1 q4 q10
theorem rX8_makeTree_240b {l : Launch} {G : jG} {X : jX} {Q : State → Prop} {n hg nc : Nat} {ret : Option FieldType} {mu : jM} {x1 : Int32} {x2 : Int32} {x3 : Int32} {x4 : Int32} {x5 : Int32} {y0 : Int32} {y1 : Int32} {y3 : Int32} {Qc : Int32 → jM → Prop} {h' : Nat} (h : jOk l G X cX8_makeTree 6 ret RX8 hg nc) (hM : jCi l G yX8_linkOf cX8_linkOf 5 h' (some .int) (.ref 58 :: [.int y1, .int y0]) mu Qc) (hh : h' < hg ∧ 5 ≤ 21) (hn : n ≤ nc)
    (kk : ∀ v mu', Qc v mu' → J l G X Q 6 243 [.ref 58, .int x1, .int x2, .int x3, .int x4, .int x5] (.int v :: [.int y3, .ref 82]) mu' n) :
    J l G X Q 6 240 [.ref 58, .int x1, .int x2, .int x3, .int x4, .int x5] [.int y0, .int y1, .ref 58, .int y3, .ref 82] mu n :=
  J_callVi (As := [.int y1, .int y0]) (rest := [.int y3, .ref 82]) h dX8_makeTree_240 hM (jgV w1134 w1136 w32 w84 w1137) rfl (ci := 8) rfl rfl nmX8_linkOf rfl hh (Nat.le_of_ble_eq_true rfl) rfl kk hn
theorem rX8_makeTree_243b {l : Launch} {G : jG} {X : jX} {Q : State → Prop} {n hg nc : Nat} {ret : Option FieldType} {mu : jM} {x1 : Int32} {x2 : Int32} {x3 : Int32} {x4 : Int32} {x5 : Int32} {y0 : Int32} {y1 : Int32} (h : jOk l G X cX8_makeTree 6 ret RX8 hg nc) (s2 : y0 = (-1) → vp_in x2 24) (s3 : y0 = (-1) → vp_in y1 24) (s5 : ¬ y0 = (-1) → vp_in y1 24)
    (k4 : y0 = (-1) → J l G X Q 6 202 [.ref 58, .int x1, .int x2, .int (x3 + (-1)), .int x4, .int x5] [] (wr mu 82 (y1).toNatClampNeg (mu 82 (x2).toNatClampNeg)) n)
    (k6 : ¬ y0 = (-1) → J l G X Q 6 202 [.ref 58, .int x1, .int x2, .int (x3 + (-1)), .int x4, .int x5] [] (wr mu 82 (y1).toNatClampNeg x3) n) :
    J l G X Q 6 243 [.ref 58, .int x1, .int x2, .int x3, .int x4, .int x5] [.int y0, .int y1, .ref 82] mu n := by
  refine J_iconst h dX8_makeTree_243 ci_m1 ?_
  refine J_icmp_eq (tgt := 251) h dX8_makeTree_244 (by decide) (fun q1 => ?_) (fun q1 => ?_)
  · skip
    refine J_aload_n h dX8_makeTree_251 rfl rfl ?_
    refine J_getr (k := 30) h dX8_makeTree_252 jc8 rfl rfl (by decide) w1014 ?_
    refine J_iload_n h dX8_makeTree_255 rfl rfl ?_
    refine J_iald h dX8_makeTree_256 rfl (s2 q1) ?_
    refine J_iast h dX8_makeTree_257 rfl (s3 q1) ?_
    refine J_iinc h dX8_makeTree_258 rfl (cc_m1 _) (by decide) rfl ?_
    show J l G X Q 6 261 [.ref 58, .int x1, .int x2, .int (x3 + (-1)), .int x4, .int x5] [] (wr mu 82 (y1).toNatClampNeg (mu 82 (x2).toNatClampNeg)) n
    refine J_goto (tgt := 202) h dX8_makeTree_261 (by decide) ?_
    exact k4 q1
  · skip
    refine J_iload_n h dX8_makeTree_247 rfl rfl ?_
    refine J_goto (tgt := 257) h dX8_makeTree_248 (by decide) ?_
    refine J_iast h dX8_makeTree_257 rfl (s5 q1) ?_
    refine J_iinc h dX8_makeTree_258 rfl (cc_m1 _) (by decide) rfl ?_
    show J l G X Q 6 261 [.ref 58, .int x1, .int x2, .int (x3 + (-1)), .int x4, .int x5] [] (wr mu 82 (y1).toNatClampNeg x3) n
    refine J_goto (tgt := 202) h dX8_makeTree_261 (by decide) ?_
    exact k6 q1
/-! LockstepNetModel.sizeOf(I)I -/
theorem rX8_sizeOf_0 {l : Launch} {G : jG} {X : jX} {Q : State → Prop} {n hg nc : Nat} {ret : Option FieldType} {mu : jM} {x1 : Int32} (h : jOk l G X cX8_sizeOf 4 ret RX8 hg nc)
    (k1 : J l G X Q 4 4 [.ref 58, .int x1, .int 0, .int 0] [] mu n) :
    J l G X Q 4 0 [.ref 58, .int x1, .float 0, .float 0] [] mu n := by
  refine J_iconst h dX8_sizeOf_0 ci_0 ?_
  refine J_istore_n h dX8_sizeOf_1 rfl (by decide) rfl ?_
  show J l G X Q 4 2 [.ref 58, .int x1, .int 0, .float 0] [] mu n
  refine J_iconst h dX8_sizeOf_2 ci_0 ?_
  refine J_istore_n h dX8_sizeOf_3 rfl (by decide) rfl ?_
  show J l G X Q 4 4 [.ref 58, .int x1, .int 0, .int 0] [] mu n
  exact k1
theorem rX8_sizeOf_4 {l : Launch} {G : jG} {X : jX} {Q : State → Prop} {n hg nc : Nat} {ret : Option FieldType} {mu : jM} {x1 : Int32} {x2 : Int32} {x3 : Int32} (h : jOk l G X cX8_sizeOf 4 ret RX8 hg nc) (s3 : ¬ (mu 58 1) ≤ x3 → vp_in x3 24)
    (k2 : (mu 58 1) ≤ x3 → J l G X Q 4 37 [.ref 58, .int x1, .int x2, .int x3] [.int x2] mu n)
    (k5 : ¬ (mu 58 1) ≤ x3 → ¬ (mu 84 (x3).toNatClampNeg) = x1 → J l G X Q 4 4 [.ref 58, .int x1, .int (x2 + 0), .int (x3 + 1)] [] mu n)
    (k6 : ¬ (mu 58 1) ≤ x3 → (mu 84 (x3).toNatClampNeg) = x1 → J l G X Q 4 4 [.ref 58, .int x1, .int (x2 + 1), .int (x3 + 1)] [] mu n) :
    J l G X Q 4 4 [.ref 58, .int x1, .int x2, .int x3] [] mu n := by
  refine J_iload_n h dX8_sizeOf_4 rfl rfl ?_
  refine J_aload_n h dX8_sizeOf_5 rfl rfl ?_
  refine J_geti (k := 1) h dX8_sizeOf_6 jc8 rfl rfl (by decide) w985 ?_
  refine J_icmp_ge (tgt := 36) h dX8_sizeOf_9 (by decide) (fun q1 => ?_) (fun q1 => ?_)
  · skip
    refine J_iload_n h dX8_sizeOf_36 rfl rfl ?_
    exact k2 q1
  · skip
    refine J_iload_n h dX8_sizeOf_12 rfl rfl ?_
    refine J_aload_n h dX8_sizeOf_13 rfl rfl ?_
    refine J_getr (k := 33) h dX8_sizeOf_14 jc8 rfl rfl (by decide) w1017 ?_
    refine J_iload_n h dX8_sizeOf_17 rfl rfl ?_
    refine J_iald h dX8_sizeOf_18 rfl (s3 q1) ?_
    refine J_iload_n h dX8_sizeOf_19 rfl rfl ?_
    refine J_icmp_ne (tgt := 27) h dX8_sizeOf_20 (by decide) (fun q4 => ?_) (fun q4 => ?_)
    · skip
      refine J_iconst h dX8_sizeOf_27 ci_0 ?_
      refine J_iadd h dX8_sizeOf_28 ?_
      refine J_istore_n h dX8_sizeOf_29 rfl (by decide) rfl ?_
      show J l G X Q 4 30 [.ref 58, .int x1, .int (x2 + 0), .int x3] [] mu n
      refine J_iinc h dX8_sizeOf_30 rfl (cc_1 _) (by decide) rfl ?_
      show J l G X Q 4 33 [.ref 58, .int x1, .int (x2 + 0), .int (x3 + 1)] [] mu n
      refine J_goto (tgt := 4) h dX8_sizeOf_33 (by decide) ?_
      exact k5 q1 q4
    · skip
      refine J_iconst h dX8_sizeOf_23 ci_1 ?_
      refine J_goto (tgt := 28) h dX8_sizeOf_24 (by decide) ?_
      refine J_iadd h dX8_sizeOf_28 ?_
      refine J_istore_n h dX8_sizeOf_29 rfl (by decide) rfl ?_
      show J l G X Q 4 30 [.ref 58, .int x1, .int (x2 + 1), .int x3] [] mu n
      refine J_iinc h dX8_sizeOf_30 rfl (cc_1 _) (by decide) rfl ?_
      show J l G X Q 4 33 [.ref 58, .int x1, .int (x2 + 1), .int (x3 + 1)] [] mu n
      refine J_goto (tgt := 4) h dX8_sizeOf_33 (by decide) ?_
      exact k6 q1 q4
/-! LockstepNetModel.markLayer(I)I -/
theorem rX8_markLayer_0 {l : Launch} {G : jG} {X : jX} {Q : State → Prop} {n hg nc : Nat} {ret : Option FieldType} {mu : jM} {x1 : Int32} (h : jOk l G X cX8_markLayer 6 ret RX8 hg nc)
    (k1 : J l G X Q 6 4 [.ref 58, .int x1, .int 0, .int 0, .float 0, .float 0] [] mu n) :
    J l G X Q 6 0 [.ref 58, .int x1, .float 0, .float 0, .float 0, .float 0] [] mu n := by
  refine J_iconst h dX8_markLayer_0 ci_0 ?_
  refine J_istore_n h dX8_markLayer_1 rfl (by decide) rfl ?_
  show J l G X Q 6 2 [.ref 58, .int x1, .int 0, .float 0, .float 0, .float 0] [] mu n
  refine J_iconst h dX8_markLayer_2 ci_0 ?_
  refine J_istore_n h dX8_markLayer_3 rfl (by decide) rfl ?_
  show J l G X Q 6 4 [.ref 58, .int x1, .int 0, .int 0, .float 0, .float 0] [] mu n
  exact k1
theorem rX8_markLayer_4 {l : Launch} {G : jG} {X : jX} {Q : State → Prop} {n hg nc : Nat} {ret : Option FieldType} {mu : jM} {x1 : Int32} {x2 : Int32} {x3 : Int32} (h : jOk l G X cX8_markLayer 6 ret RX8 hg nc)
    (k2 : (mu 58 1) ≤ x3 → J l G X Q 6 109 [.ref 58, .int x1, .int x2, .int x3, .float 0, .float 0] [.int x2] mu n)
    (k3 : ¬ (mu 58 1) ≤ x3 → J l G X Q 6 18 [.ref 58, .int x1, .int x2, .int x3, .int 0, .int 0] [] mu n) :
    J l G X Q 6 4 [.ref 58, .int x1, .int x2, .int x3, .float 0, .float 0] [] mu n := by
  refine J_iload_n h dX8_markLayer_4 rfl rfl ?_
  refine J_aload_n h dX8_markLayer_5 rfl rfl ?_
  refine J_geti (k := 1) h dX8_markLayer_6 jc8 rfl rfl (by decide) w985 ?_
  refine J_icmp_ge (tgt := 108) h dX8_markLayer_9 (by decide) (fun q1 => ?_) (fun q1 => ?_)
  · skip
    refine J_iload_n h dX8_markLayer_108 rfl rfl ?_
    exact k2 q1
  · skip
    refine J_iconst h dX8_markLayer_12 ci_0 ?_
    refine J_istore h dX8_markLayer_13 (by decide) rfl ?_
    show J l G X Q 6 15 [.ref 58, .int x1, .int x2, .int x3, .int 0, .float 0] [] mu n
    refine J_iconst h dX8_markLayer_15 ci_0 ?_
    refine J_istore h dX8_markLayer_16 (by decide) rfl ?_
    show J l G X Q 6 18 [.ref 58, .int x1, .int x2, .int x3, .int 0, .int 0] [] mu n
    exact k3 q1
theorem rX8_markLayer_18 {l : Launch} {G : jG} {X : jX} {Q : State → Prop} {n hg nc : Nat} {ret : Option FieldType} {mu : jM} {x1 : Int32} {x2 : Int32} {x3 : Int32} {x4 : Int32} {x5 : Int32} (h : jOk l G X cX8_markLayer 6 ret RX8 hg nc) (s2 : (mu 58 1) ≤ x5 → vp_in x3 24) (s4 : (mu 58 1) ≤ x5 → ¬ (mu 84 (x3).toNatClampNeg) = (-1) → vp_in x3 24) (s5 : (mu 58 1) ≤ x5 → ¬ (mu 84 (x3).toNatClampNeg) = (-1) → vp_in x3 24) (s8 : (mu 58 1) ≤ x5 → (mu 84 (x3).toNatClampNeg) = (-1) → x4 = 0 → vp_in x3 24) (s9 : (mu 58 1) ≤ x5 → (mu 84 (x3).toNatClampNeg) = (-1) → x4 = 0 → vp_in x3 24) (s11 : (mu 58 1) ≤ x5 → (mu 84 (x3).toNatClampNeg) = (-1) → ¬ x4 = 0 → vp_in x3 24) (s12 : (mu 58 1) ≤ x5 → (mu 84 (x3).toNatClampNeg) = (-1) → ¬ x4 = 0 → vp_in x3 24) (s16 : ¬ (mu 58 1) ≤ x5 → x4 = 0 → vp_in x5 24)
    (k6 : (mu 58 1) ≤ x5 → ¬ (mu 84 (x3).toNatClampNeg) = (-1) → J l G X Q 6 4 [.ref 58, .int x1, .int (x2 + ((wr mu 88 (x3).toNatClampNeg 0) 88 (x3).toNatClampNeg)), .int (x3 + 1), .int x4, .int x5] [] (wr mu 88 (x3).toNatClampNeg 0) n)
    (k10 : (mu 58 1) ≤ x5 → (mu 84 (x3).toNatClampNeg) = (-1) → x4 = 0 → J l G X Q 6 4 [.ref 58, .int x1, .int (x2 + ((wr mu 88 (x3).toNatClampNeg 0) 88 (x3).toNatClampNeg)), .int (x3 + 1), .int x4, .int x5] [] (wr mu 88 (x3).toNatClampNeg 0) n)
    (k13 : (mu 58 1) ≤ x5 → (mu 84 (x3).toNatClampNeg) = (-1) → ¬ x4 = 0 → J l G X Q 6 4 [.ref 58, .int x1, .int (x2 + ((wr mu 88 (x3).toNatClampNeg 1) 88 (x3).toNatClampNeg)), .int (x3 + 1), .int x4, .int x5] [] (wr mu 88 (x3).toNatClampNeg 1) n)
    (k15 : ¬ (mu 58 1) ≤ x5 → ¬ x4 = 0 → J l G X Q 6 54 [.ref 58, .int x1, .int x2, .int x3, .int x4, .int x5] [] mu n)
    (k18 : ¬ (mu 58 1) ≤ x5 → x4 = 0 → ¬ (mu 84 (x5).toNatClampNeg) = x1 → J l G X Q 6 58 [.ref 58, .int x1, .int x2, .int x3, .int x4, .int x5] [] mu n)
    (k19 : ¬ (mu 58 1) ≤ x5 → x4 = 0 → (mu 84 (x5).toNatClampNeg) = x1 → J l G X Q 6 47 [.ref 58, .int x1, .int x2, .int x3, .int x4, .int x5] [.int x5, .int x3, .ref 58] mu n) :
    J l G X Q 6 18 [.ref 58, .int x1, .int x2, .int x3, .int x4, .int x5] [] mu n := by
  refine J_iload h dX8_markLayer_18 rfl ?_
  refine J_aload_n h dX8_markLayer_20 rfl rfl ?_
  refine J_geti (k := 1) h dX8_markLayer_21 jc8 rfl rfl (by decide) w985 ?_
  refine J_icmp_ge (tgt := 67) h dX8_markLayer_24 (by decide) (fun q1 => ?_) (fun q1 => ?_)
  · skip
    refine J_aload_n h dX8_markLayer_67 rfl rfl ?_
    refine J_getr (k := 37) h dX8_markLayer_68 jc8 rfl rfl (by decide) w1021 ?_
    refine J_iload_n h dX8_markLayer_71 rfl rfl ?_
    refine J_aload_n h dX8_markLayer_72 rfl rfl ?_
    refine J_getr (k := 33) h dX8_markLayer_73 jc8 rfl rfl (by decide) w1017 ?_
    refine J_iload_n h dX8_markLayer_76 rfl rfl ?_
    refine J_iald h dX8_markLayer_77 rfl (s2 q1) ?_
    refine J_iconst h dX8_markLayer_78 ci_m1 ?_
    refine J_icmp_ne (tgt := 91) h dX8_markLayer_79 (by decide) (fun q3 => ?_) (fun q3 => ?_)
    · skip
      refine J_iconst h dX8_markLayer_91 ci_0 ?_
      refine J_iast h dX8_markLayer_92 rfl (s4 q1 q3) ?_
      refine J_iload_n h dX8_markLayer_93 rfl rfl ?_
      refine J_aload_n h dX8_markLayer_94 rfl rfl ?_
      refine J_getr (k := 37) h dX8_markLayer_95 jc8 rfl rfl (by decide) w1021 ?_
      refine J_iload_n h dX8_markLayer_98 rfl rfl ?_
      refine J_iald h dX8_markLayer_99 rfl (s5 q1 q3) ?_
      refine J_iadd h dX8_markLayer_100 ?_
      refine J_istore_n h dX8_markLayer_101 rfl (by decide) rfl ?_
      show J l G X Q 6 102 [.ref 58, .int x1, .int (x2 + ((wr mu 88 (x3).toNatClampNeg 0) 88 (x3).toNatClampNeg)), .int x3, .int x4, .int x5] [] (wr mu 88 (x3).toNatClampNeg 0) n
      refine J_iinc h dX8_markLayer_102 rfl (cc_1 _) (by decide) rfl ?_
      show J l G X Q 6 105 [.ref 58, .int x1, .int (x2 + ((wr mu 88 (x3).toNatClampNeg 0) 88 (x3).toNatClampNeg)), .int (x3 + 1), .int x4, .int x5] [] (wr mu 88 (x3).toNatClampNeg 0) n
      refine J_goto (tgt := 4) h dX8_markLayer_105 (by decide) ?_
      exact k6 q1 q3
    · skip
      refine J_iload h dX8_markLayer_82 rfl ?_
      refine J_if_eq (tgt := 91) h dX8_markLayer_84 (by decide) (fun q7 => ?_) (fun q7 => ?_)
      · skip
        refine J_iconst h dX8_markLayer_91 ci_0 ?_
        refine J_iast h dX8_markLayer_92 rfl (s8 q1 q3 q7) ?_
        refine J_iload_n h dX8_markLayer_93 rfl rfl ?_
        refine J_aload_n h dX8_markLayer_94 rfl rfl ?_
        refine J_getr (k := 37) h dX8_markLayer_95 jc8 rfl rfl (by decide) w1021 ?_
        refine J_iload_n h dX8_markLayer_98 rfl rfl ?_
        refine J_iald h dX8_markLayer_99 rfl (s9 q1 q3 q7) ?_
        refine J_iadd h dX8_markLayer_100 ?_
        refine J_istore_n h dX8_markLayer_101 rfl (by decide) rfl ?_
        show J l G X Q 6 102 [.ref 58, .int x1, .int (x2 + ((wr mu 88 (x3).toNatClampNeg 0) 88 (x3).toNatClampNeg)), .int x3, .int x4, .int x5] [] (wr mu 88 (x3).toNatClampNeg 0) n
        refine J_iinc h dX8_markLayer_102 rfl (cc_1 _) (by decide) rfl ?_
        show J l G X Q 6 105 [.ref 58, .int x1, .int (x2 + ((wr mu 88 (x3).toNatClampNeg 0) 88 (x3).toNatClampNeg)), .int (x3 + 1), .int x4, .int x5] [] (wr mu 88 (x3).toNatClampNeg 0) n
        refine J_goto (tgt := 4) h dX8_markLayer_105 (by decide) ?_
        exact k10 q1 q3 q7
      · skip
        refine J_iconst h dX8_markLayer_87 ci_1 ?_
        refine J_goto (tgt := 92) h dX8_markLayer_88 (by decide) ?_
        refine J_iast h dX8_markLayer_92 rfl (s11 q1 q3 q7) ?_
        refine J_iload_n h dX8_markLayer_93 rfl rfl ?_
        refine J_aload_n h dX8_markLayer_94 rfl rfl ?_
        refine J_getr (k := 37) h dX8_markLayer_95 jc8 rfl rfl (by decide) w1021 ?_
        refine J_iload_n h dX8_markLayer_98 rfl rfl ?_
        refine J_iald h dX8_markLayer_99 rfl (s12 q1 q3 q7) ?_
        refine J_iadd h dX8_markLayer_100 ?_
        refine J_istore_n h dX8_markLayer_101 rfl (by decide) rfl ?_
        show J l G X Q 6 102 [.ref 58, .int x1, .int (x2 + ((wr mu 88 (x3).toNatClampNeg 1) 88 (x3).toNatClampNeg)), .int x3, .int x4, .int x5] [] (wr mu 88 (x3).toNatClampNeg 1) n
        refine J_iinc h dX8_markLayer_102 rfl (cc_1 _) (by decide) rfl ?_
        show J l G X Q 6 105 [.ref 58, .int x1, .int (x2 + ((wr mu 88 (x3).toNatClampNeg 1) 88 (x3).toNatClampNeg)), .int (x3 + 1), .int x4, .int x5] [] (wr mu 88 (x3).toNatClampNeg 1) n
        refine J_goto (tgt := 4) h dX8_markLayer_105 (by decide) ?_
        exact k13 q1 q3 q7
  · skip
    refine J_iload h dX8_markLayer_27 rfl ?_
    refine J_if_ne (tgt := 54) h dX8_markLayer_29 (by decide) (fun q14 => ?_) (fun q14 => ?_)
    · skip
      exact k15 q1 q14
    · skip
      refine J_aload_n h dX8_markLayer_32 rfl rfl ?_
      refine J_getr (k := 33) h dX8_markLayer_33 jc8 rfl rfl (by decide) w1017 ?_
      refine J_iload h dX8_markLayer_36 rfl ?_
      refine J_iald h dX8_markLayer_38 rfl (s16 q1 q14) ?_
      refine J_iload_n h dX8_markLayer_39 rfl rfl ?_
      refine J_icmp_ne (tgt := 58) h dX8_markLayer_40 (by decide) (fun q17 => ?_) (fun q17 => ?_)
      · skip
        exact k18 q1 q14 q17
      · skip
        refine J_aload_n h dX8_markLayer_43 rfl rfl ?_
        refine J_iload_n h dX8_markLayer_44 rfl rfl ?_
        refine J_iload h dX8_markLayer_45 rfl ?_
        exact k19 q1 q14 q17
theorem rX8_markLayer_4b {l : Launch} {G : jG} {X : jX} {Q : State → Prop} {n hg nc : Nat} {ret : Option FieldType} {mu : jM} {x1 : Int32} {x2 : Int32} {x3 : Int32} {x4 : Int32} {x5 : Int32} (h : jOk l G X cX8_markLayer 6 ret RX8 hg nc)
    (k2 : (mu 58 1) ≤ x3 → J l G X Q 6 109 [.ref 58, .int x1, .int x2, .int x3, .int x4, .int x5] [.int x2] mu n)
    (k3 : ¬ (mu 58 1) ≤ x3 → J l G X Q 6 18 [.ref 58, .int x1, .int x2, .int x3, .int 0, .int 0] [] mu n) :
    J l G X Q 6 4 [.ref 58, .int x1, .int x2, .int x3, .int x4, .int x5] [] mu n := by
  refine J_iload_n h dX8_markLayer_4 rfl rfl ?_
  refine J_aload_n h dX8_markLayer_5 rfl rfl ?_
  refine J_geti (k := 1) h dX8_markLayer_6 jc8 rfl rfl (by decide) w985 ?_
  refine J_icmp_ge (tgt := 108) h dX8_markLayer_9 (by decide) (fun q1 => ?_) (fun q1 => ?_)
  · skip
    refine J_iload_n h dX8_markLayer_108 rfl rfl ?_
    exact k2 q1
  · skip
    refine J_iconst h dX8_markLayer_12 ci_0 ?_
    refine J_istore h dX8_markLayer_13 (by decide) rfl ?_
    show J l G X Q 6 15 [.ref 58, .int x1, .int x2, .int x3, .int 0, .int x5] [] mu n
    refine J_iconst h dX8_markLayer_15 ci_0 ?_
    refine J_istore h dX8_markLayer_16 (by decide) rfl ?_
    show J l G X Q 6 18 [.ref 58, .int x1, .int x2, .int x3, .int 0, .int 0] [] mu n
    exact k3 q1
theorem rX8_markLayer_54 {l : Launch} {G : jG} {X : jX} {Q : State → Prop} {n hg nc : Nat} {ret : Option FieldType} {mu : jM} {x1 : Int32} {x2 : Int32} {x3 : Int32} {x4 : Int32} {x5 : Int32} (h : jOk l G X cX8_markLayer 6 ret RX8 hg nc)
    (k1 : J l G X Q 6 18 [.ref 58, .int x1, .int x2, .int x3, .int 1, .int (x5 + 1)] [] mu n) :
    J l G X Q 6 54 [.ref 58, .int x1, .int x2, .int x3, .int x4, .int x5] [] mu n := by
  refine J_iconst h dX8_markLayer_54 ci_1 ?_
  refine J_goto (tgt := 59) h dX8_markLayer_55 (by decide) ?_
  refine J_istore h dX8_markLayer_59 (by decide) rfl ?_
  show J l G X Q 6 61 [.ref 58, .int x1, .int x2, .int x3, .int 1, .int x5] [] mu n
  refine J_iinc h dX8_markLayer_61 rfl (cc_1 _) (by decide) rfl ?_
  show J l G X Q 6 64 [.ref 58, .int x1, .int x2, .int x3, .int 1, .int (x5 + 1)] [] mu n
  refine J_goto (tgt := 18) h dX8_markLayer_64 (by decide) ?_
  exact k1
theorem rX8_markLayer_58 {l : Launch} {G : jG} {X : jX} {Q : State → Prop} {n hg nc : Nat} {ret : Option FieldType} {mu : jM} {x1 : Int32} {x2 : Int32} {x3 : Int32} {x4 : Int32} {x5 : Int32} (h : jOk l G X cX8_markLayer 6 ret RX8 hg nc)
    (k1 : J l G X Q 6 18 [.ref 58, .int x1, .int x2, .int x3, .int 0, .int (x5 + 1)] [] mu n) :
    J l G X Q 6 58 [.ref 58, .int x1, .int x2, .int x3, .int x4, .int x5] [] mu n := by
  refine J_iconst h dX8_markLayer_58 ci_0 ?_
  refine J_istore h dX8_markLayer_59 (by decide) rfl ?_
  show J l G X Q 6 61 [.ref 58, .int x1, .int x2, .int x3, .int 0, .int x5] [] mu n
  refine J_iinc h dX8_markLayer_61 rfl (cc_1 _) (by decide) rfl ?_
  show J l G X Q 6 64 [.ref 58, .int x1, .int x2, .int x3, .int 0, .int (x5 + 1)] [] mu n
  refine J_goto (tgt := 18) h dX8_markLayer_64 (by decide) ?_
  exact k1
theorem rX8_markLayer_47 {l : Launch} {G : jG} {X : jX} {Q : State → Prop} {n hg nc : Nat} {ret : Option FieldType} {mu : jM} {x1 : Int32} {x2 : Int32} {x3 : Int32} {x4 : Int32} {x5 : Int32} {y0 : Int32} {y1 : Int32} {Qc : Int32 → jM → Prop} {h' : Nat} (h : jOk l G X cX8_markLayer 6 ret RX8 hg nc) (hM : jCi l G yX8_linkOf cX8_linkOf 5 h' (some .int) (.ref 58 :: [.int y1, .int y0]) mu Qc) (hh : h' < hg ∧ 5 ≤ 21) (hn : n ≤ nc)
    (kk : ∀ v mu', Qc v mu' → J l G X Q 6 50 [.ref 58, .int x1, .int x2, .int x3, .int x4, .int x5] (.int v :: []) mu' n) :
    J l G X Q 6 47 [.ref 58, .int x1, .int x2, .int x3, .int x4, .int x5] [.int y0, .int y1, .ref 58] mu n :=
  J_callVi (As := [.int y1, .int y0]) (rest := []) h dX8_markLayer_47 hM (jgV w1134 w1136 w32 w84 w1137) rfl (ci := 8) rfl rfl nmX8_linkOf rfl hh (Nat.le_of_ble_eq_true rfl) rfl kk hn
theorem rX8_markLayer_50 {l : Launch} {G : jG} {X : jX} {Q : State → Prop} {n hg nc : Nat} {ret : Option FieldType} {mu : jM} {x1 : Int32} {x2 : Int32} {x3 : Int32} {x4 : Int32} {x5 : Int32} {y0 : Int32} (h : jOk l G X cX8_markLayer 6 ret RX8 hg nc)
    (k2 : y0 = (-1) → J l G X Q 6 58 [.ref 58, .int x1, .int x2, .int x3, .int x4, .int x5] [] mu n)
    (k3 : ¬ y0 = (-1) → J l G X Q 6 54 [.ref 58, .int x1, .int x2, .int x3, .int x4, .int x5] [] mu n) :
    J l G X Q 6 50 [.ref 58, .int x1, .int x2, .int x3, .int x4, .int x5] [.int y0] mu n := by
  refine J_iconst h dX8_markLayer_50 ci_m1 ?_
  refine J_icmp_eq (tgt := 58) h dX8_markLayer_51 (by decide) (fun q1 => ?_) (fun q1 => ?_)
  · skip
    exact k2 q1
  · skip
    exact k3 q1
/-! LockstepNetModel.makeCluster(II)V -/
theorem rX8_makeCluster_0 {l : Launch} {G : jG} {X : jX} {Q : State → Prop} {n hg nc : Nat} {ret : Option FieldType} {mu : jM} {x1 : Int32} {x2 : Int32} (h : jOk l G X cX8_makeCluster 8 ret RX8 hg nc) (s1 : vp_in x1 24) (s2 : vp_in x1 24) (s3 : vp_in x1 24)
    (k4 : J l G X Q 8 31 [.ref 58, .int x1, .int x2, .int (mu 58 32), .int 0, .float 0, .float 0, .float 0] [.int (mu 58 32), .ref 58] (wr (wr (wr mu 84 (x1).toNatClampNeg (mu 58 32)) 86 (x1).toNatClampNeg 0) 85 (x1).toNatClampNeg (-1)) n) :
    J l G X Q 8 0 [.ref 58, .int x1, .int x2, .float 0, .float 0, .float 0, .float 0, .float 0] [] mu n := by
  refine J_aload_n h dX8_makeCluster_0 rfl rfl ?_
  refine J_geti (k := 32) h dX8_makeCluster_1 jc8 rfl rfl (by decide) w1016 ?_
  refine J_istore_n h dX8_makeCluster_4 rfl (by decide) rfl ?_
  show J l G X Q 8 5 [.ref 58, .int x1, .int x2, .int (mu 58 32), .float 0, .float 0, .float 0, .float 0] [] mu n
  refine J_aload_n h dX8_makeCluster_5 rfl rfl ?_
  refine J_getr (k := 33) h dX8_makeCluster_6 jc8 rfl rfl (by decide) w1017 ?_
  refine J_iload_n h dX8_makeCluster_9 rfl rfl ?_
  refine J_iload_n h dX8_makeCluster_10 rfl rfl ?_
  refine J_iast h dX8_makeCluster_11 rfl (s1) ?_
  refine J_aload_n h dX8_makeCluster_12 rfl rfl ?_
  refine J_getr (k := 35) h dX8_makeCluster_13 jc8 rfl rfl (by decide) w1019 ?_
  refine J_iload_n h dX8_makeCluster_16 rfl rfl ?_
  refine J_iconst h dX8_makeCluster_17 ci_0 ?_
  refine J_iast h dX8_makeCluster_18 rfl (s2) ?_
  refine J_aload_n h dX8_makeCluster_19 rfl rfl ?_
  refine J_getr (k := 34) h dX8_makeCluster_20 jc8 rfl rfl (by decide) w1018 ?_
  refine J_iload_n h dX8_makeCluster_23 rfl rfl ?_
  refine J_iconst h dX8_makeCluster_24 ci_m1 ?_
  refine J_iast h dX8_makeCluster_25 rfl (s3) ?_
  refine J_iconst h dX8_makeCluster_26 ci_0 ?_
  refine J_istore h dX8_makeCluster_27 (by decide) rfl ?_
  show J l G X Q 8 29 [.ref 58, .int x1, .int x2, .int (mu 58 32), .int 0, .float 0, .float 0, .float 0] [] (wr (wr (wr mu 84 (x1).toNatClampNeg (mu 58 32)) 86 (x1).toNatClampNeg 0) 85 (x1).toNatClampNeg (-1)) n
  refine J_aload_n h dX8_makeCluster_29 rfl rfl ?_
  refine J_iload_n h dX8_makeCluster_30 rfl rfl ?_
  exact k4
theorem rX8_makeCluster_31 {l : Launch} {G : jG} {X : jX} {Q : State → Prop} {n hg nc : Nat} {ret : Option FieldType} {mu : jM} {x1 : Int32} {x2 : Int32} {x3 : Int32} {x4 : Int32} {y0 : Int32} {Qc : Int32 → jM → Prop} {h' : Nat} (h : jOk l G X cX8_makeCluster 8 ret RX8 hg nc) (hM : jCi l G yX8_markLayer cX8_markLayer 6 h' (some .int) (.ref 58 :: [.int y0]) mu Qc) (hh : h' < hg ∧ 6 ≤ 21) (hn : n ≤ nc)
    (kk : ∀ v mu', Qc v mu' → J l G X Q 8 34 [.ref 58, .int x1, .int x2, .int x3, .int x4, .float 0, .float 0, .float 0] (.int v :: []) mu' n) :
    J l G X Q 8 31 [.ref 58, .int x1, .int x2, .int x3, .int x4, .float 0, .float 0, .float 0] [.int y0, .ref 58] mu n :=
  J_callVi (As := [.int y0]) (rest := []) h dX8_makeCluster_31 hM (jgV w1269 w1271 w54 w84 w1272) rfl (ci := 8) rfl rfl nmX8_markLayer rfl hh (Nat.le_of_ble_eq_true rfl) rfl kk hn
theorem rX8_makeCluster_34 {l : Launch} {G : jG} {X : jX} {Q : State → Prop} {n hg nc : Nat} {ret : Option FieldType} {mu : jM} {x1 : Int32} {x2 : Int32} {x3 : Int32} {x4 : Int32} {y0 : Int32} (h : jOk l G X cX8_makeCluster 8 ret RX8 hg nc)
    (k1 : J l G X Q 8 36 [.ref 58, .int x1, .int x2, .int x3, .int x4, .int y0, .float 0, .float 0] [] mu n) :
    J l G X Q 8 34 [.ref 58, .int x1, .int x2, .int x3, .int x4, .float 0, .float 0, .float 0] [.int y0] mu n := by
  refine J_istore h dX8_makeCluster_34 (by decide) rfl ?_
  show J l G X Q 8 36 [.ref 58, .int x1, .int x2, .int x3, .int x4, .int y0, .float 0, .float 0] [] mu n
  exact k1
theorem rX8_makeCluster_36 {l : Launch} {G : jG} {X : jX} {Q : State → Prop} {n hg nc : Nat} {ret : Option FieldType} {mu : jM} {x1 : Int32} {x2 : Int32} {x3 : Int32} {x4 : Int32} {x5 : Int32} (h : jOk l G X cX8_makeCluster 8 ret RX8 hg nc)
    (k2 : x5 ≤ 0 → J l G X Q 8 228 [.ref 58, .int x1, .int x2, .int x3, .int x4, .int x5, .float 0, .float 0] [] mu n)
    (k3 : ¬ x5 ≤ 0 → J l G X Q 8 48 [.ref 58, .int x1, .int x2, .int x3, .int x4, .int x5, .float 0, .float 0] [.int x3, .ref 58, .int (x2 - 1), .int x5] mu n) :
    J l G X Q 8 36 [.ref 58, .int x1, .int x2, .int x3, .int x4, .int x5, .float 0, .float 0] [] mu n := by
  refine J_iload h dX8_makeCluster_36 rfl ?_
  refine J_if_le (tgt := 228) h dX8_makeCluster_38 (by decide) (fun q1 => ?_) (fun q1 => ?_)
  · skip
    exact k2 q1
  · skip
    refine J_iload h dX8_makeCluster_41 rfl ?_
    refine J_iload_n h dX8_makeCluster_43 rfl rfl ?_
    refine J_iconst h dX8_makeCluster_44 ci_1 ?_
    refine J_isub h dX8_makeCluster_45 ?_
    refine J_aload_n h dX8_makeCluster_46 rfl rfl ?_
    refine J_iload_n h dX8_makeCluster_47 rfl rfl ?_
    exact k3 q1
theorem rX8_makeCluster_228 {l : Launch} {G : jG} {X : jX} {Q : State → Prop} {n hg nc : Nat} {ret : Option FieldType} {mu : jM} {x1 : Int32} {x2 : Int32} {x3 : Int32} {x4 : Int32} {x5 : Int32} (h : jOk l G X cX8_makeCluster 8 ret RX8 hg nc)
    (k1 : J l G X Q 8 238 [.ref 58, .int x1, .int x2, .int x3, .int x4, .int x5, .float 0, .float 0] [] (wr mu 58 32 ((mu 58 32) + 1)) n) :
    J l G X Q 8 228 [.ref 58, .int x1, .int x2, .int x3, .int x4, .int x5, .float 0, .float 0] [] mu n := by
  refine J_aload_n h dX8_makeCluster_228 rfl rfl ?_
  refine J_dup h dX8_makeCluster_229 rfl ?_
  refine J_geti (k := 32) h dX8_makeCluster_230 jc8 rfl rfl (by decide) w1016 ?_
  refine J_iconst h dX8_makeCluster_233 ci_1 ?_
  refine J_iadd h dX8_makeCluster_234 ?_
  refine J_puti (k := 32) (ty0 := tyX8) h dX8_makeCluster_235 jc8 tyX8_ok nmX8 rfl rfl (by decide) rfl rfl rfl w1016 ?_
  exact k1
theorem rX8_makeCluster_48 {l : Launch} {G : jG} {X : jX} {Q : State → Prop} {n hg nc : Nat} {ret : Option FieldType} {mu : jM} {x1 : Int32} {x2 : Int32} {x3 : Int32} {x4 : Int32} {x5 : Int32} {y0 : Int32} {y2 : Int32} {y3 : Int32} {Qc : Int32 → jM → Prop} {h' : Nat} (h : jOk l G X cX8_makeCluster 8 ret RX8 hg nc) (hM : jCi l G yX8_sizeOf cX8_sizeOf 4 h' (some .int) (.ref 58 :: [.int y0]) mu Qc) (hh : h' < hg ∧ 4 ≤ 21) (hn : n ≤ nc)
    (kk : ∀ v mu', Qc v mu' → J l G X Q 8 51 [.ref 58, .int x1, .int x2, .int x3, .int x4, .int x5, .float 0, .float 0] (.int v :: [.int y2, .int y3]) mu' n) :
    J l G X Q 8 48 [.ref 58, .int x1, .int x2, .int x3, .int x4, .int x5, .float 0, .float 0] [.int y0, .ref 58, .int y2, .int y3] mu n :=
  J_callVi (As := [.int y0]) (rest := [.int y2, .int y3]) h dX8_makeCluster_48 hM (jgV w1273 w1275 w55 w84 w1276) rfl (ci := 8) rfl rfl nmX8_sizeOf rfl hh (Nat.le_of_ble_eq_true rfl) rfl kk hn
theorem rX8_makeCluster_51 {l : Launch} {G : jG} {X : jX} {Q : State → Prop} {n hg nc : Nat} {ret : Option FieldType} {mu : jM} {x1 : Int32} {x2 : Int32} {x3 : Int32} {x4 : Int32} {x5 : Int32} {y0 : Int32} {y1 : Int32} {y2 : Int32} (h : jOk l G X cX8_makeCluster 8 ret RX8 hg nc)
    (k2 : y2 < (y1 * y0) → J l G X Q 8 228 [.ref 58, .int x1, .int x2, .int x3, .int x4, .int x5, .float 0, .float 0] [] mu n)
    (k3 : ¬ y2 < (y1 * y0) → J l G X Q 8 61 [.ref 58, .int x1, .int x2, .int x3, .int (x4 + 1), .int x5, .int 0, .float 0] [] mu n) :
    J l G X Q 8 51 [.ref 58, .int x1, .int x2, .int x3, .int x4, .int x5, .float 0, .float 0] [.int y0, .int y1, .int y2] mu n := by
  refine J_imul h dX8_makeCluster_51 ?_
  refine J_icmp_lt (tgt := 228) h dX8_makeCluster_52 (by decide) (fun q1 => ?_) (fun q1 => ?_)
  · skip
    exact k2 q1
  · skip
    refine J_iinc h dX8_makeCluster_55 rfl (cc_1 _) (by decide) rfl ?_
    show J l G X Q 8 58 [.ref 58, .int x1, .int x2, .int x3, .int (x4 + 1), .int x5, .float 0, .float 0] [] mu n
    refine J_iconst h dX8_makeCluster_58 ci_0 ?_
    refine J_istore h dX8_makeCluster_59 (by decide) rfl ?_
    show J l G X Q 8 61 [.ref 58, .int x1, .int x2, .int x3, .int (x4 + 1), .int x5, .int 0, .float 0] [] mu n
    exact k3 q1
theorem rX8_makeCluster_61 {l : Launch} {G : jG} {X : jX} {Q : State → Prop} {n hg nc : Nat} {ret : Option FieldType} {mu : jM} {x1 : Int32} {x2 : Int32} {x3 : Int32} {x4 : Int32} {x5 : Int32} {x6 : Int32} (h : jOk l G X cX8_makeCluster 8 ret RX8 hg nc) (s3 : ¬ (mu 58 1) ≤ x6 → vp_in x6 24) (s6 : ¬ (mu 58 1) ≤ x6 → (mu 88 (x6).toNatClampNeg) = 1 → vp_in x6 24)
    (k2 : (mu 58 1) ≤ x6 → J l G X Q 8 174 [.ref 58, .int x1, .int x2, .int x3, .int x4, .int x5, .int 0, .float 0] [] mu n)
    (k5 : ¬ (mu 58 1) ≤ x6 → ¬ (mu 88 (x6).toNatClampNeg) = 1 → J l G X Q 8 165 [.ref 58, .int x1, .int x2, .int x3, .int x4, .int x5, .int x6, .float 0] [] mu n)
    (k7 : ¬ (mu 58 1) ≤ x6 → (mu 88 (x6).toNatClampNeg) = 1 → J l G X Q 8 98 [.ref 58, .int x1, .int x2, .int x3, .int x4, .int x5, .int x6, .int ((mu 58 1) - 1)] [] (wr mu 86 (x6).toNatClampNeg x4) n) :
    J l G X Q 8 61 [.ref 58, .int x1, .int x2, .int x3, .int x4, .int x5, .int x6, .float 0] [] mu n := by
  refine J_iload h dX8_makeCluster_61 rfl ?_
  refine J_aload_n h dX8_makeCluster_63 rfl rfl ?_
  refine J_geti (k := 1) h dX8_makeCluster_64 jc8 rfl rfl (by decide) w985 ?_
  refine J_icmp_ge (tgt := 171) h dX8_makeCluster_67 (by decide) (fun q1 => ?_) (fun q1 => ?_)
  · skip
    refine J_iconst h dX8_makeCluster_171 ci_0 ?_
    refine J_istore h dX8_makeCluster_172 (by decide) rfl ?_
    show J l G X Q 8 174 [.ref 58, .int x1, .int x2, .int x3, .int x4, .int x5, .int 0, .float 0] [] mu n
    exact k2 q1
  · skip
    refine J_aload_n h dX8_makeCluster_70 rfl rfl ?_
    refine J_getr (k := 37) h dX8_makeCluster_71 jc8 rfl rfl (by decide) w1021 ?_
    refine J_iload h dX8_makeCluster_74 rfl ?_
    refine J_iald h dX8_makeCluster_76 rfl (s3 q1) ?_
    refine J_iconst h dX8_makeCluster_77 ci_1 ?_
    refine J_icmp_ne (tgt := 165) h dX8_makeCluster_78 (by decide) (fun q4 => ?_) (fun q4 => ?_)
    · skip
      exact k5 q1 q4
    · skip
      refine J_aload_n h dX8_makeCluster_81 rfl rfl ?_
      refine J_getr (k := 35) h dX8_makeCluster_82 jc8 rfl rfl (by decide) w1019 ?_
      refine J_iload h dX8_makeCluster_85 rfl ?_
      refine J_iload h dX8_makeCluster_87 rfl ?_
      refine J_iast h dX8_makeCluster_89 rfl (s6 q1 q4) ?_
      refine J_aload_n h dX8_makeCluster_90 rfl rfl ?_
      refine J_geti (k := 1) h dX8_makeCluster_91 jc8 rfl rfl (by decide) w985 ?_
      refine J_iconst h dX8_makeCluster_94 ci_1 ?_
      refine J_isub h dX8_makeCluster_95 ?_
      refine J_istore h dX8_makeCluster_96 (by decide) rfl ?_
      show J l G X Q 8 98 [.ref 58, .int x1, .int x2, .int x3, .int x4, .int x5, .int x6, .int ((mu 58 1) - 1)] [] (wr mu 86 (x6).toNatClampNeg x4) n
      exact k7 q1 q4
theorem rX8_makeCluster_174 {l : Launch} {G : jG} {X : jX} {Q : State → Prop} {n hg nc : Nat} {ret : Option FieldType} {mu : jM} {x1 : Int32} {x2 : Int32} {x3 : Int32} {x4 : Int32} {x5 : Int32} {x6 : Int32} (h : jOk l G X cX8_makeCluster 8 ret RX8 hg nc) (s3 : ¬ (mu 58 1) ≤ x6 → vp_in x6 24) (s5 : ¬ (mu 58 1) ≤ x6 → ¬ (mu 88 (x6).toNatClampNeg) = 1 → vp_in x6 24) (s6 : ¬ (mu 58 1) ≤ x6 → ¬ (mu 88 (x6).toNatClampNeg) = 1 → vp_in x6 24) (s8 : ¬ (mu 58 1) ≤ x6 → (mu 88 (x6).toNatClampNeg) = 1 → vp_in x6 24)
    (k2 : (mu 58 1) ≤ x6 → J l G X Q 8 220 [.ref 58, .int x1, .int x2, .int x3, .int x4, .int x5, .int x6, .float 0] [.int x3, .ref 58] mu n)
    (k7 : ¬ (mu 58 1) ≤ x6 → ¬ (mu 88 (x6).toNatClampNeg) = 1 → J l G X Q 8 174 [.ref 58, .int x1, .int x2, .int x3, .int x4, .int x5, .int (x6 + 1), .float 0] [] (wr mu 84 (x6).toNatClampNeg (mu 84 (x6).toNatClampNeg)) n)
    (k9 : ¬ (mu 58 1) ≤ x6 → (mu 88 (x6).toNatClampNeg) = 1 → J l G X Q 8 174 [.ref 58, .int x1, .int x2, .int x3, .int x4, .int x5, .int (x6 + 1), .float 0] [] (wr mu 84 (x6).toNatClampNeg x3) n) :
    J l G X Q 8 174 [.ref 58, .int x1, .int x2, .int x3, .int x4, .int x5, .int x6, .float 0] [] mu n := by
  refine J_iload h dX8_makeCluster_174 rfl ?_
  refine J_aload_n h dX8_makeCluster_176 rfl rfl ?_
  refine J_geti (k := 1) h dX8_makeCluster_177 jc8 rfl rfl (by decide) w985 ?_
  refine J_icmp_ge (tgt := 218) h dX8_makeCluster_180 (by decide) (fun q1 => ?_) (fun q1 => ?_)
  · skip
    refine J_aload_n h dX8_makeCluster_218 rfl rfl ?_
    refine J_iload_n h dX8_makeCluster_219 rfl rfl ?_
    exact k2 q1
  · skip
    refine J_aload_n h dX8_makeCluster_183 rfl rfl ?_
    refine J_getr (k := 33) h dX8_makeCluster_184 jc8 rfl rfl (by decide) w1017 ?_
    refine J_iload h dX8_makeCluster_187 rfl ?_
    refine J_aload_n h dX8_makeCluster_189 rfl rfl ?_
    refine J_getr (k := 37) h dX8_makeCluster_190 jc8 rfl rfl (by decide) w1021 ?_
    refine J_iload h dX8_makeCluster_193 rfl ?_
    refine J_iald h dX8_makeCluster_195 rfl (s3 q1) ?_
    refine J_iconst h dX8_makeCluster_196 ci_1 ?_
    refine J_icmp_ne (tgt := 204) h dX8_makeCluster_197 (by decide) (fun q4 => ?_) (fun q4 => ?_)
    · skip
      refine J_aload_n h dX8_makeCluster_204 rfl rfl ?_
      refine J_getr (k := 33) h dX8_makeCluster_205 jc8 rfl rfl (by decide) w1017 ?_
      refine J_iload h dX8_makeCluster_208 rfl ?_
      refine J_iald h dX8_makeCluster_210 rfl (s5 q1 q4) ?_
      refine J_iast h dX8_makeCluster_211 rfl (s6 q1 q4) ?_
      refine J_iinc h dX8_makeCluster_212 rfl (cc_1 _) (by decide) rfl ?_
      show J l G X Q 8 215 [.ref 58, .int x1, .int x2, .int x3, .int x4, .int x5, .int (x6 + 1), .float 0] [] (wr mu 84 (x6).toNatClampNeg (mu 84 (x6).toNatClampNeg)) n
      refine J_goto (tgt := 174) h dX8_makeCluster_215 (by decide) ?_
      exact k7 q1 q4
    · skip
      refine J_iload_n h dX8_makeCluster_200 rfl rfl ?_
      refine J_goto (tgt := 211) h dX8_makeCluster_201 (by decide) ?_
      refine J_iast h dX8_makeCluster_211 rfl (s8 q1 q4) ?_
      refine J_iinc h dX8_makeCluster_212 rfl (cc_1 _) (by decide) rfl ?_
      show J l G X Q 8 215 [.ref 58, .int x1, .int x2, .int x3, .int x4, .int x5, .int (x6 + 1), .float 0] [] (wr mu 84 (x6).toNatClampNeg x3) n
      refine J_goto (tgt := 174) h dX8_makeCluster_215 (by decide) ?_
      exact k9 q1 q4
theorem rX8_makeCluster_165 {l : Launch} {G : jG} {X : jX} {Q : State → Prop} {n hg nc : Nat} {ret : Option FieldType} {mu : jM} {x1 : Int32} {x2 : Int32} {x3 : Int32} {x4 : Int32} {x5 : Int32} {x6 : Int32} (h : jOk l G X cX8_makeCluster 8 ret RX8 hg nc)
    (k1 : J l G X Q 8 61 [.ref 58, .int x1, .int x2, .int x3, .int x4, .int x5, .int (x6 + 1), .float 0] [] mu n) :
    J l G X Q 8 165 [.ref 58, .int x1, .int x2, .int x3, .int x4, .int x5, .int x6, .float 0] [] mu n := by
  refine J_iinc h dX8_makeCluster_165 rfl (cc_1 _) (by decide) rfl ?_
  show J l G X Q 8 168 [.ref 58, .int x1, .int x2, .int x3, .int x4, .int x5, .int (x6 + 1), .float 0] [] mu n
  refine J_goto (tgt := 61) h dX8_makeCluster_168 (by decide) ?_
  exact k1
theorem rX8_makeCluster_98 {l : Launch} {G : jG} {X : jX} {Q : State → Prop} {n hg nc : Nat} {ret : Option FieldType} {mu : jM} {x1 : Int32} {x2 : Int32} {x3 : Int32} {x4 : Int32} {x5 : Int32} {x6 : Int32} {x7 : Int32} (h : jOk l G X cX8_makeCluster 8 ret RX8 hg nc) (s3 : ¬ x7 < 0 → vp_in x7 24) (s5 : ¬ x7 < 0 → ¬ (mu 84 (x7).toNatClampNeg) = x3 → vp_in x6 24) (s6 : ¬ x7 < 0 → ¬ (mu 84 (x7).toNatClampNeg) = x3 → vp_in x6 24) (s8 : ¬ x7 < 0 → (mu 84 (x7).toNatClampNeg) = x3 → vp_in x7 24) (s10 : ¬ x7 < 0 → (mu 84 (x7).toNatClampNeg) = x3 → ¬ (mu 86 (x7).toNatClampNeg) = (x4 - 1) → vp_in x6 24) (s11 : ¬ x7 < 0 → (mu 84 (x7).toNatClampNeg) = x3 → ¬ (mu 86 (x7).toNatClampNeg) = (x4 - 1) → vp_in x6 24)
    (k2 : x7 < 0 → J l G X Q 8 165 [.ref 58, .int x1, .int x2, .int x3, .int x4, .int x5, .int x6, .int x7] [] mu n)
    (k7 : ¬ x7 < 0 → ¬ (mu 84 (x7).toNatClampNeg) = x3 → J l G X Q 8 98 [.ref 58, .int x1, .int x2, .int x3, .int x4, .int x5, .int x6, .int (x7 + (-1))] [] (wr mu 85 (x6).toNatClampNeg (mu 85 (x6).toNatClampNeg)) n)
    (k12 : ¬ x7 < 0 → (mu 84 (x7).toNatClampNeg) = x3 → ¬ (mu 86 (x7).toNatClampNeg) = (x4 - 1) → J l G X Q 8 98 [.ref 58, .int x1, .int x2, .int x3, .int x4, .int x5, .int x6, .int (x7 + (-1))] [] (wr mu 85 (x6).toNatClampNeg (mu 85 (x6).toNatClampNeg)) n)
    (k13 : ¬ x7 < 0 → (mu 84 (x7).toNatClampNeg) = x3 → (mu 86 (x7).toNatClampNeg) = (x4 - 1) → J l G X Q 8 139 [.ref 58, .int x1, .int x2, .int x3, .int x4, .int x5, .int x6, .int x7] [.int x7, .int x6, .ref 58, .int x6, .ref 85] mu n) :
    J l G X Q 8 98 [.ref 58, .int x1, .int x2, .int x3, .int x4, .int x5, .int x6, .int x7] [] mu n := by
  refine J_iload h dX8_makeCluster_98 rfl ?_
  refine J_if_lt (tgt := 165) h dX8_makeCluster_100 (by decide) (fun q1 => ?_) (fun q1 => ?_)
  · skip
    exact k2 q1
  · skip
    refine J_aload_n h dX8_makeCluster_103 rfl rfl ?_
    refine J_getr (k := 34) h dX8_makeCluster_104 jc8 rfl rfl (by decide) w1018 ?_
    refine J_iload h dX8_makeCluster_107 rfl ?_
    refine J_aload_n h dX8_makeCluster_109 rfl rfl ?_
    refine J_getr (k := 33) h dX8_makeCluster_110 jc8 rfl rfl (by decide) w1017 ?_
    refine J_iload h dX8_makeCluster_113 rfl ?_
    refine J_iald h dX8_makeCluster_115 rfl (s3 q1) ?_
    refine J_iload_n h dX8_makeCluster_116 rfl rfl ?_
    refine J_icmp_ne (tgt := 151) h dX8_makeCluster_117 (by decide) (fun q4 => ?_) (fun q4 => ?_)
    · skip
      refine J_aload_n h dX8_makeCluster_151 rfl rfl ?_
      refine J_getr (k := 34) h dX8_makeCluster_152 jc8 rfl rfl (by decide) w1018 ?_
      refine J_iload h dX8_makeCluster_155 rfl ?_
      refine J_iald h dX8_makeCluster_157 rfl (s5 q1 q4) ?_
      refine J_iast h dX8_makeCluster_158 rfl (s6 q1 q4) ?_
      refine J_iinc h dX8_makeCluster_159 rfl (cc_m1 _) (by decide) rfl ?_
      show J l G X Q 8 162 [.ref 58, .int x1, .int x2, .int x3, .int x4, .int x5, .int x6, .int (x7 + (-1))] [] (wr mu 85 (x6).toNatClampNeg (mu 85 (x6).toNatClampNeg)) n
      refine J_goto (tgt := 98) h dX8_makeCluster_162 (by decide) ?_
      exact k7 q1 q4
    · skip
      refine J_aload_n h dX8_makeCluster_120 rfl rfl ?_
      refine J_getr (k := 35) h dX8_makeCluster_121 jc8 rfl rfl (by decide) w1019 ?_
      refine J_iload h dX8_makeCluster_124 rfl ?_
      refine J_iald h dX8_makeCluster_126 rfl (s8 q1 q4) ?_
      refine J_iload h dX8_makeCluster_127 rfl ?_
      refine J_iconst h dX8_makeCluster_129 ci_1 ?_
      refine J_isub h dX8_makeCluster_130 ?_
      refine J_icmp_ne (tgt := 151) h dX8_makeCluster_131 (by decide) (fun q9 => ?_) (fun q9 => ?_)
      · skip
        refine J_aload_n h dX8_makeCluster_151 rfl rfl ?_
        refine J_getr (k := 34) h dX8_makeCluster_152 jc8 rfl rfl (by decide) w1018 ?_
        refine J_iload h dX8_makeCluster_155 rfl ?_
        refine J_iald h dX8_makeCluster_157 rfl (s10 q1 q4 q9) ?_
        refine J_iast h dX8_makeCluster_158 rfl (s11 q1 q4 q9) ?_
        refine J_iinc h dX8_makeCluster_159 rfl (cc_m1 _) (by decide) rfl ?_
        show J l G X Q 8 162 [.ref 58, .int x1, .int x2, .int x3, .int x4, .int x5, .int x6, .int (x7 + (-1))] [] (wr mu 85 (x6).toNatClampNeg (mu 85 (x6).toNatClampNeg)) n
        refine J_goto (tgt := 98) h dX8_makeCluster_162 (by decide) ?_
        exact k12 q1 q4 q9
      · skip
        refine J_aload_n h dX8_makeCluster_134 rfl rfl ?_
        refine J_iload h dX8_makeCluster_135 rfl ?_
        refine J_iload h dX8_makeCluster_137 rfl ?_
        exact k13 q1 q4 q9
theorem rX8_makeCluster_220 {l : Launch} {G : jG} {X : jX} {Q : State → Prop} {n hg nc : Nat} {ret : Option FieldType} {mu : jM} {x1 : Int32} {x2 : Int32} {x3 : Int32} {x4 : Int32} {x5 : Int32} {x6 : Int32} {y0 : Int32} {Qc : Int32 → jM → Prop} {h' : Nat} (h : jOk l G X cX8_makeCluster 8 ret RX8 hg nc) (hM : jCi l G yX8_markLayer cX8_markLayer 6 h' (some .int) (.ref 58 :: [.int y0]) mu Qc) (hh : h' < hg ∧ 6 ≤ 21) (hn : n ≤ nc)
    (kk : ∀ v mu', Qc v mu' → J l G X Q 8 223 [.ref 58, .int x1, .int x2, .int x3, .int x4, .int x5, .int x6, .float 0] (.int v :: []) mu' n) :
    J l G X Q 8 220 [.ref 58, .int x1, .int x2, .int x3, .int x4, .int x5, .int x6, .float 0] [.int y0, .ref 58] mu n :=
  J_callVi (As := [.int y0]) (rest := []) h dX8_makeCluster_220 hM (jgV w1269 w1271 w54 w84 w1272) rfl (ci := 8) rfl rfl nmX8_markLayer rfl hh (Nat.le_of_ble_eq_true rfl) rfl kk hn
theorem rX8_makeCluster_165b {l : Launch} {G : jG} {X : jX} {Q : State → Prop} {n hg nc : Nat} {ret : Option FieldType} {mu : jM} {x1 : Int32} {x2 : Int32} {x3 : Int32} {x4 : Int32} {x5 : Int32} {x6 : Int32} {x7 : Int32} (h : jOk l G X cX8_makeCluster 8 ret RX8 hg nc)
    (k1 : J l G X Q 8 61 [.ref 58, .int x1, .int x2, .int x3, .int x4, .int x5, .int (x6 + 1), .int x7] [] mu n) :
    J l G X Q 8 165 [.ref 58, .int x1, .int x2, .int x3, .int x4, .int x5, .int x6, .int x7] [] mu n := by
  refine J_iinc h dX8_makeCluster_165 rfl (cc_1 _) (by decide) rfl ?_
  show J l G X Q 8 168 [.ref 58, .int x1, .int x2, .int x3, .int x4, .int x5, .int (x6 + 1), .int x7] [] mu n
  refine J_goto (tgt := 61) h dX8_makeCluster_168 (by decide) ?_
  exact k1
theorem rX8_makeCluster_139 {l : Launch} {G : jG} {X : jX} {Q : State → Prop} {n hg nc : Nat} {ret : Option FieldType} {mu : jM} {x1 : Int32} {x2 : Int32} {x3 : Int32} {x4 : Int32} {x5 : Int32} {x6 : Int32} {x7 : Int32} {y0 : Int32} {y1 : Int32} {y3 : Int32} {Qc : Int32 → jM → Prop} {h' : Nat} (h : jOk l G X cX8_makeCluster 8 ret RX8 hg nc) (hM : jCi l G yX8_linkOf cX8_linkOf 5 h' (some .int) (.ref 58 :: [.int y1, .int y0]) mu Qc) (hh : h' < hg ∧ 5 ≤ 21) (hn : n ≤ nc)
    (kk : ∀ v mu', Qc v mu' → J l G X Q 8 142 [.ref 58, .int x1, .int x2, .int x3, .int x4, .int x5, .int x6, .int x7] (.int v :: [.int y3, .ref 85]) mu' n) :
    J l G X Q 8 139 [.ref 58, .int x1, .int x2, .int x3, .int x4, .int x5, .int x6, .int x7] [.int y0, .int y1, .ref 58, .int y3, .ref 85] mu n :=
  J_callVi (As := [.int y1, .int y0]) (rest := [.int y3, .ref 85]) h dX8_makeCluster_139 hM (jgV w1134 w1136 w32 w84 w1137) rfl (ci := 8) rfl rfl nmX8_linkOf rfl hh (Nat.le_of_ble_eq_true rfl) rfl kk hn
theorem rX8_makeCluster_223 {l : Launch} {G : jG} {X : jX} {Q : State → Prop} {n hg nc : Nat} {ret : Option FieldType} {mu : jM} {x1 : Int32} {x2 : Int32} {x3 : Int32} {x4 : Int32} {x5 : Int32} {x6 : Int32} {y0 : Int32} (h : jOk l G X cX8_makeCluster 8 ret RX8 hg nc)
    (k1 : J l G X Q 8 36 [.ref 58, .int x1, .int x2, .int x3, .int x4, .int y0, .int x6, .float 0] [] mu n) :
    J l G X Q 8 223 [.ref 58, .int x1, .int x2, .int x3, .int x4, .int x5, .int x6, .float 0] [.int y0] mu n := by
  refine J_istore h dX8_makeCluster_223 (by decide) rfl ?_
  show J l G X Q 8 225 [.ref 58, .int x1, .int x2, .int x3, .int x4, .int y0, .int x6, .float 0] [] mu n
  refine J_goto (tgt := 36) h dX8_makeCluster_225 (by decide) ?_
  exact k1
theorem rX8_makeCluster_61b {l : Launch} {G : jG} {X : jX} {Q : State → Prop} {n hg nc : Nat} {ret : Option FieldType} {mu : jM} {x1 : Int32} {x2 : Int32} {x3 : Int32} {x4 : Int32} {x5 : Int32} {x6 : Int32} {x7 : Int32} (h : jOk l G X cX8_makeCluster 8 ret RX8 hg nc) (s3 : ¬ (mu 58 1) ≤ x6 → vp_in x6 24) (s6 : ¬ (mu 58 1) ≤ x6 → (mu 88 (x6).toNatClampNeg) = 1 → vp_in x6 24)
    (k2 : (mu 58 1) ≤ x6 → J l G X Q 8 174 [.ref 58, .int x1, .int x2, .int x3, .int x4, .int x5, .int 0, .int x7] [] mu n)
    (k5 : ¬ (mu 58 1) ≤ x6 → ¬ (mu 88 (x6).toNatClampNeg) = 1 → J l G X Q 8 165 [.ref 58, .int x1, .int x2, .int x3, .int x4, .int x5, .int x6, .int x7] [] mu n)
    (k7 : ¬ (mu 58 1) ≤ x6 → (mu 88 (x6).toNatClampNeg) = 1 → J l G X Q 8 98 [.ref 58, .int x1, .int x2, .int x3, .int x4, .int x5, .int x6, .int ((mu 58 1) - 1)] [] (wr mu 86 (x6).toNatClampNeg x4) n) :
    J l G X Q 8 61 [.ref 58, .int x1, .int x2, .int x3, .int x4, .int x5, .int x6, .int x7] [] mu n := by
  refine J_iload h dX8_makeCluster_61 rfl ?_
  refine J_aload_n h dX8_makeCluster_63 rfl rfl ?_
  refine J_geti (k := 1) h dX8_makeCluster_64 jc8 rfl rfl (by decide) w985 ?_
  refine J_icmp_ge (tgt := 171) h dX8_makeCluster_67 (by decide) (fun q1 => ?_) (fun q1 => ?_)
  · skip
    refine J_iconst h dX8_makeCluster_171 ci_0 ?_
    refine J_istore h dX8_makeCluster_172 (by decide) rfl ?_
    show J l G X Q 8 174 [.ref 58, .int x1, .int x2, .int x3, .int x4, .int x5, .int 0, .int x7] [] mu n
    exact k2 q1
  · skip
    refine J_aload_n h dX8_makeCluster_70 rfl rfl ?_
    refine J_getr (k := 37) h dX8_makeCluster_71 jc8 rfl rfl (by decide) w1021 ?_
    refine J_iload h dX8_makeCluster_74 rfl ?_
    refine J_iald h dX8_makeCluster_76 rfl (s3 q1) ?_
    refine J_iconst h dX8_makeCluster_77 ci_1 ?_
    refine J_icmp_ne (tgt := 165) h dX8_makeCluster_78 (by decide) (fun q4 => ?_) (fun q4 => ?_)
    · skip
      exact k5 q1 q4
    · skip
      refine J_aload_n h dX8_makeCluster_81 rfl rfl ?_
      refine J_getr (k := 35) h dX8_makeCluster_82 jc8 rfl rfl (by decide) w1019 ?_
      refine J_iload h dX8_makeCluster_85 rfl ?_
      refine J_iload h dX8_makeCluster_87 rfl ?_
      refine J_iast h dX8_makeCluster_89 rfl (s6 q1 q4) ?_
      refine J_aload_n h dX8_makeCluster_90 rfl rfl ?_
      refine J_geti (k := 1) h dX8_makeCluster_91 jc8 rfl rfl (by decide) w985 ?_
      refine J_iconst h dX8_makeCluster_94 ci_1 ?_
      refine J_isub h dX8_makeCluster_95 ?_
      refine J_istore h dX8_makeCluster_96 (by decide) rfl ?_
      show J l G X Q 8 98 [.ref 58, .int x1, .int x2, .int x3, .int x4, .int x5, .int x6, .int ((mu 58 1) - 1)] [] (wr mu 86 (x6).toNatClampNeg x4) n
      exact k7 q1 q4
theorem rX8_makeCluster_142 {l : Launch} {G : jG} {X : jX} {Q : State → Prop} {n hg nc : Nat} {ret : Option FieldType} {mu : jM} {x1 : Int32} {x2 : Int32} {x3 : Int32} {x4 : Int32} {x5 : Int32} {x6 : Int32} {x7 : Int32} {y0 : Int32} {y1 : Int32} (h : jOk l G X cX8_makeCluster 8 ret RX8 hg nc) (s2 : y0 = (-1) → vp_in x6 24) (s3 : y0 = (-1) → vp_in y1 24) (s5 : ¬ y0 = (-1) → vp_in y1 24)
    (k4 : y0 = (-1) → J l G X Q 8 98 [.ref 58, .int x1, .int x2, .int x3, .int x4, .int x5, .int x6, .int (x7 + (-1))] [] (wr mu 85 (y1).toNatClampNeg (mu 85 (x6).toNatClampNeg)) n)
    (k6 : ¬ y0 = (-1) → J l G X Q 8 98 [.ref 58, .int x1, .int x2, .int x3, .int x4, .int x5, .int x6, .int (x7 + (-1))] [] (wr mu 85 (y1).toNatClampNeg x7) n) :
    J l G X Q 8 142 [.ref 58, .int x1, .int x2, .int x3, .int x4, .int x5, .int x6, .int x7] [.int y0, .int y1, .ref 85] mu n := by
  refine J_iconst h dX8_makeCluster_142 ci_m1 ?_
  refine J_icmp_eq (tgt := 151) h dX8_makeCluster_143 (by decide) (fun q1 => ?_) (fun q1 => ?_)
  · skip
    refine J_aload_n h dX8_makeCluster_151 rfl rfl ?_
    refine J_getr (k := 34) h dX8_makeCluster_152 jc8 rfl rfl (by decide) w1018 ?_
    refine J_iload h dX8_makeCluster_155 rfl ?_
    refine J_iald h dX8_makeCluster_157 rfl (s2 q1) ?_
    refine J_iast h dX8_makeCluster_158 rfl (s3 q1) ?_
    refine J_iinc h dX8_makeCluster_159 rfl (cc_m1 _) (by decide) rfl ?_
    show J l G X Q 8 162 [.ref 58, .int x1, .int x2, .int x3, .int x4, .int x5, .int x6, .int (x7 + (-1))] [] (wr mu 85 (y1).toNatClampNeg (mu 85 (x6).toNatClampNeg)) n
    refine J_goto (tgt := 98) h dX8_makeCluster_162 (by decide) ?_
    exact k4 q1
  · skip
    refine J_iload h dX8_makeCluster_146 rfl ?_
    refine J_goto (tgt := 158) h dX8_makeCluster_148 (by decide) ?_
    refine J_iast h dX8_makeCluster_158 rfl (s5 q1) ?_
    refine J_iinc h dX8_makeCluster_159 rfl (cc_m1 _) (by decide) rfl ?_
    show J l G X Q 8 162 [.ref 58, .int x1, .int x2, .int x3, .int x4, .int x5, .int x6, .int (x7 + (-1))] [] (wr mu 85 (y1).toNatClampNeg x7) n
    refine J_goto (tgt := 98) h dX8_makeCluster_162 (by decide) ?_
    exact k6 q1
theorem rX8_makeCluster_36b {l : Launch} {G : jG} {X : jX} {Q : State → Prop} {n hg nc : Nat} {ret : Option FieldType} {mu : jM} {x1 : Int32} {x2 : Int32} {x3 : Int32} {x4 : Int32} {x5 : Int32} {x6 : Int32} (h : jOk l G X cX8_makeCluster 8 ret RX8 hg nc)
    (k2 : x5 ≤ 0 → J l G X Q 8 228 [.ref 58, .int x1, .int x2, .int x3, .int x4, .int x5, .int x6, .float 0] [] mu n)
    (k3 : ¬ x5 ≤ 0 → J l G X Q 8 48 [.ref 58, .int x1, .int x2, .int x3, .int x4, .int x5, .int x6, .float 0] [.int x3, .ref 58, .int (x2 - 1), .int x5] mu n) :
    J l G X Q 8 36 [.ref 58, .int x1, .int x2, .int x3, .int x4, .int x5, .int x6, .float 0] [] mu n := by
  refine J_iload h dX8_makeCluster_36 rfl ?_
  refine J_if_le (tgt := 228) h dX8_makeCluster_38 (by decide) (fun q1 => ?_) (fun q1 => ?_)
  · skip
    exact k2 q1
  · skip
    refine J_iload h dX8_makeCluster_41 rfl ?_
    refine J_iload_n h dX8_makeCluster_43 rfl rfl ?_
    refine J_iconst h dX8_makeCluster_44 ci_1 ?_
    refine J_isub h dX8_makeCluster_45 ?_
    refine J_aload_n h dX8_makeCluster_46 rfl rfl ?_
    refine J_iload_n h dX8_makeCluster_47 rfl rfl ?_
    exact k3 q1
theorem rX8_makeCluster_174b {l : Launch} {G : jG} {X : jX} {Q : State → Prop} {n hg nc : Nat} {ret : Option FieldType} {mu : jM} {x1 : Int32} {x2 : Int32} {x3 : Int32} {x4 : Int32} {x5 : Int32} {x6 : Int32} {x7 : Int32} (h : jOk l G X cX8_makeCluster 8 ret RX8 hg nc) (s3 : ¬ (mu 58 1) ≤ x6 → vp_in x6 24) (s5 : ¬ (mu 58 1) ≤ x6 → ¬ (mu 88 (x6).toNatClampNeg) = 1 → vp_in x6 24) (s6 : ¬ (mu 58 1) ≤ x6 → ¬ (mu 88 (x6).toNatClampNeg) = 1 → vp_in x6 24) (s8 : ¬ (mu 58 1) ≤ x6 → (mu 88 (x6).toNatClampNeg) = 1 → vp_in x6 24)
    (k2 : (mu 58 1) ≤ x6 → J l G X Q 8 220 [.ref 58, .int x1, .int x2, .int x3, .int x4, .int x5, .int x6, .int x7] [.int x3, .ref 58] mu n)
    (k7 : ¬ (mu 58 1) ≤ x6 → ¬ (mu 88 (x6).toNatClampNeg) = 1 → J l G X Q 8 174 [.ref 58, .int x1, .int x2, .int x3, .int x4, .int x5, .int (x6 + 1), .int x7] [] (wr mu 84 (x6).toNatClampNeg (mu 84 (x6).toNatClampNeg)) n)
    (k9 : ¬ (mu 58 1) ≤ x6 → (mu 88 (x6).toNatClampNeg) = 1 → J l G X Q 8 174 [.ref 58, .int x1, .int x2, .int x3, .int x4, .int x5, .int (x6 + 1), .int x7] [] (wr mu 84 (x6).toNatClampNeg x3) n) :
    J l G X Q 8 174 [.ref 58, .int x1, .int x2, .int x3, .int x4, .int x5, .int x6, .int x7] [] mu n := by
  refine J_iload h dX8_makeCluster_174 rfl ?_
  refine J_aload_n h dX8_makeCluster_176 rfl rfl ?_
  refine J_geti (k := 1) h dX8_makeCluster_177 jc8 rfl rfl (by decide) w985 ?_
  refine J_icmp_ge (tgt := 218) h dX8_makeCluster_180 (by decide) (fun q1 => ?_) (fun q1 => ?_)
  · skip
    refine J_aload_n h dX8_makeCluster_218 rfl rfl ?_
    refine J_iload_n h dX8_makeCluster_219 rfl rfl ?_
    exact k2 q1
  · skip
    refine J_aload_n h dX8_makeCluster_183 rfl rfl ?_
    refine J_getr (k := 33) h dX8_makeCluster_184 jc8 rfl rfl (by decide) w1017 ?_
    refine J_iload h dX8_makeCluster_187 rfl ?_
    refine J_aload_n h dX8_makeCluster_189 rfl rfl ?_
    refine J_getr (k := 37) h dX8_makeCluster_190 jc8 rfl rfl (by decide) w1021 ?_
    refine J_iload h dX8_makeCluster_193 rfl ?_
    refine J_iald h dX8_makeCluster_195 rfl (s3 q1) ?_
    refine J_iconst h dX8_makeCluster_196 ci_1 ?_
    refine J_icmp_ne (tgt := 204) h dX8_makeCluster_197 (by decide) (fun q4 => ?_) (fun q4 => ?_)
    · skip
      refine J_aload_n h dX8_makeCluster_204 rfl rfl ?_
      refine J_getr (k := 33) h dX8_makeCluster_205 jc8 rfl rfl (by decide) w1017 ?_
      refine J_iload h dX8_makeCluster_208 rfl ?_
      refine J_iald h dX8_makeCluster_210 rfl (s5 q1 q4) ?_
      refine J_iast h dX8_makeCluster_211 rfl (s6 q1 q4) ?_
      refine J_iinc h dX8_makeCluster_212 rfl (cc_1 _) (by decide) rfl ?_
      show J l G X Q 8 215 [.ref 58, .int x1, .int x2, .int x3, .int x4, .int x5, .int (x6 + 1), .int x7] [] (wr mu 84 (x6).toNatClampNeg (mu 84 (x6).toNatClampNeg)) n
      refine J_goto (tgt := 174) h dX8_makeCluster_215 (by decide) ?_
      exact k7 q1 q4
    · skip
      refine J_iload_n h dX8_makeCluster_200 rfl rfl ?_
      refine J_goto (tgt := 211) h dX8_makeCluster_201 (by decide) ?_
      refine J_iast h dX8_makeCluster_211 rfl (s8 q1 q4) ?_
      refine J_iinc h dX8_makeCluster_212 rfl (cc_1 _) (by decide) rfl ?_
      show J l G X Q 8 215 [.ref 58, .int x1, .int x2, .int x3, .int x4, .int x5, .int (x6 + 1), .int x7] [] (wr mu 84 (x6).toNatClampNeg x3) n
      refine J_goto (tgt := 174) h dX8_makeCluster_215 (by decide) ?_
      exact k9 q1 q4
theorem rX8_makeCluster_228b {l : Launch} {G : jG} {X : jX} {Q : State → Prop} {n hg nc : Nat} {ret : Option FieldType} {mu : jM} {x1 : Int32} {x2 : Int32} {x3 : Int32} {x4 : Int32} {x5 : Int32} {x6 : Int32} (h : jOk l G X cX8_makeCluster 8 ret RX8 hg nc)
    (k1 : J l G X Q 8 238 [.ref 58, .int x1, .int x2, .int x3, .int x4, .int x5, .int x6, .float 0] [] (wr mu 58 32 ((mu 58 32) + 1)) n) :
    J l G X Q 8 228 [.ref 58, .int x1, .int x2, .int x3, .int x4, .int x5, .int x6, .float 0] [] mu n := by
  refine J_aload_n h dX8_makeCluster_228 rfl rfl ?_
  refine J_dup h dX8_makeCluster_229 rfl ?_
  refine J_geti (k := 32) h dX8_makeCluster_230 jc8 rfl rfl (by decide) w1016 ?_
  refine J_iconst h dX8_makeCluster_233 ci_1 ?_
  refine J_iadd h dX8_makeCluster_234 ?_
  refine J_puti (k := 32) (ty0 := tyX8) h dX8_makeCluster_235 jc8 tyX8_ok nmX8 rfl rfl (by decide) rfl rfl rfl w1016 ?_
  exact k1
theorem rX8_makeCluster_48b {l : Launch} {G : jG} {X : jX} {Q : State → Prop} {n hg nc : Nat} {ret : Option FieldType} {mu : jM} {x1 : Int32} {x2 : Int32} {x3 : Int32} {x4 : Int32} {x5 : Int32} {x6 : Int32} {y0 : Int32} {y2 : Int32} {y3 : Int32} {Qc : Int32 → jM → Prop} {h' : Nat} (h : jOk l G X cX8_makeCluster 8 ret RX8 hg nc) (hM : jCi l G yX8_sizeOf cX8_sizeOf 4 h' (some .int) (.ref 58 :: [.int y0]) mu Qc) (hh : h' < hg ∧ 4 ≤ 21) (hn : n ≤ nc)
    (kk : ∀ v mu', Qc v mu' → J l G X Q 8 51 [.ref 58, .int x1, .int x2, .int x3, .int x4, .int x5, .int x6, .float 0] (.int v :: [.int y2, .int y3]) mu' n) :
    J l G X Q 8 48 [.ref 58, .int x1, .int x2, .int x3, .int x4, .int x5, .int x6, .float 0] [.int y0, .ref 58, .int y2, .int y3] mu n :=
  J_callVi (As := [.int y0]) (rest := [.int y2, .int y3]) h dX8_makeCluster_48 hM (jgV w1273 w1275 w55 w84 w1276) rfl (ci := 8) rfl rfl nmX8_sizeOf rfl hh (Nat.le_of_ble_eq_true rfl) rfl kk hn
theorem rX8_makeCluster_220b {l : Launch} {G : jG} {X : jX} {Q : State → Prop} {n hg nc : Nat} {ret : Option FieldType} {mu : jM} {x1 : Int32} {x2 : Int32} {x3 : Int32} {x4 : Int32} {x5 : Int32} {x6 : Int32} {x7 : Int32} {y0 : Int32} {Qc : Int32 → jM → Prop} {h' : Nat} (h : jOk l G X cX8_makeCluster 8 ret RX8 hg nc) (hM : jCi l G yX8_markLayer cX8_markLayer 6 h' (some .int) (.ref 58 :: [.int y0]) mu Qc) (hh : h' < hg ∧ 6 ≤ 21) (hn : n ≤ nc)
    (kk : ∀ v mu', Qc v mu' → J l G X Q 8 223 [.ref 58, .int x1, .int x2, .int x3, .int x4, .int x5, .int x6, .int x7] (.int v :: []) mu' n) :
    J l G X Q 8 220 [.ref 58, .int x1, .int x2, .int x3, .int x4, .int x5, .int x6, .int x7] [.int y0, .ref 58] mu n :=
  J_callVi (As := [.int y0]) (rest := []) h dX8_makeCluster_220 hM (jgV w1269 w1271 w54 w84 w1272) rfl (ci := 8) rfl rfl nmX8_markLayer rfl hh (Nat.le_of_ble_eq_true rfl) rfl kk hn
theorem rX8_makeCluster_51b {l : Launch} {G : jG} {X : jX} {Q : State → Prop} {n hg nc : Nat} {ret : Option FieldType} {mu : jM} {x1 : Int32} {x2 : Int32} {x3 : Int32} {x4 : Int32} {x5 : Int32} {x6 : Int32} {y0 : Int32} {y1 : Int32} {y2 : Int32} (h : jOk l G X cX8_makeCluster 8 ret RX8 hg nc)
    (k2 : y2 < (y1 * y0) → J l G X Q 8 228 [.ref 58, .int x1, .int x2, .int x3, .int x4, .int x5, .int x6, .float 0] [] mu n)
    (k3 : ¬ y2 < (y1 * y0) → J l G X Q 8 61 [.ref 58, .int x1, .int x2, .int x3, .int (x4 + 1), .int x5, .int 0, .float 0] [] mu n) :
    J l G X Q 8 51 [.ref 58, .int x1, .int x2, .int x3, .int x4, .int x5, .int x6, .float 0] [.int y0, .int y1, .int y2] mu n := by
  refine J_imul h dX8_makeCluster_51 ?_
  refine J_icmp_lt (tgt := 228) h dX8_makeCluster_52 (by decide) (fun q1 => ?_) (fun q1 => ?_)
  · skip
    exact k2 q1
  · skip
    refine J_iinc h dX8_makeCluster_55 rfl (cc_1 _) (by decide) rfl ?_
    show J l G X Q 8 58 [.ref 58, .int x1, .int x2, .int x3, .int (x4 + 1), .int x5, .int x6, .float 0] [] mu n
    refine J_iconst h dX8_makeCluster_58 ci_0 ?_
    refine J_istore h dX8_makeCluster_59 (by decide) rfl ?_
    show J l G X Q 8 61 [.ref 58, .int x1, .int x2, .int x3, .int (x4 + 1), .int x5, .int 0, .float 0] [] mu n
    exact k3 q1
theorem rX8_makeCluster_223b {l : Launch} {G : jG} {X : jX} {Q : State → Prop} {n hg nc : Nat} {ret : Option FieldType} {mu : jM} {x1 : Int32} {x2 : Int32} {x3 : Int32} {x4 : Int32} {x5 : Int32} {x6 : Int32} {x7 : Int32} {y0 : Int32} (h : jOk l G X cX8_makeCluster 8 ret RX8 hg nc)
    (k1 : J l G X Q 8 36 [.ref 58, .int x1, .int x2, .int x3, .int x4, .int y0, .int x6, .int x7] [] mu n) :
    J l G X Q 8 223 [.ref 58, .int x1, .int x2, .int x3, .int x4, .int x5, .int x6, .int x7] [.int y0] mu n := by
  refine J_istore h dX8_makeCluster_223 (by decide) rfl ?_
  show J l G X Q 8 225 [.ref 58, .int x1, .int x2, .int x3, .int x4, .int y0, .int x6, .int x7] [] mu n
  refine J_goto (tgt := 36) h dX8_makeCluster_225 (by decide) ?_
  exact k1
theorem rX8_makeCluster_36c {l : Launch} {G : jG} {X : jX} {Q : State → Prop} {n hg nc : Nat} {ret : Option FieldType} {mu : jM} {x1 : Int32} {x2 : Int32} {x3 : Int32} {x4 : Int32} {x5 : Int32} {x6 : Int32} {x7 : Int32} (h : jOk l G X cX8_makeCluster 8 ret RX8 hg nc)
    (k2 : x5 ≤ 0 → J l G X Q 8 228 [.ref 58, .int x1, .int x2, .int x3, .int x4, .int x5, .int x6, .int x7] [] mu n)
    (k3 : ¬ x5 ≤ 0 → J l G X Q 8 48 [.ref 58, .int x1, .int x2, .int x3, .int x4, .int x5, .int x6, .int x7] [.int x3, .ref 58, .int (x2 - 1), .int x5] mu n) :
    J l G X Q 8 36 [.ref 58, .int x1, .int x2, .int x3, .int x4, .int x5, .int x6, .int x7] [] mu n := by
  refine J_iload h dX8_makeCluster_36 rfl ?_
  refine J_if_le (tgt := 228) h dX8_makeCluster_38 (by decide) (fun q1 => ?_) (fun q1 => ?_)
  · skip
    exact k2 q1
  · skip
    refine J_iload h dX8_makeCluster_41 rfl ?_
    refine J_iload_n h dX8_makeCluster_43 rfl rfl ?_
    refine J_iconst h dX8_makeCluster_44 ci_1 ?_
    refine J_isub h dX8_makeCluster_45 ?_
    refine J_aload_n h dX8_makeCluster_46 rfl rfl ?_
    refine J_iload_n h dX8_makeCluster_47 rfl rfl ?_
    exact k3 q1
theorem rX8_makeCluster_228c {l : Launch} {G : jG} {X : jX} {Q : State → Prop} {n hg nc : Nat} {ret : Option FieldType} {mu : jM} {x1 : Int32} {x2 : Int32} {x3 : Int32} {x4 : Int32} {x5 : Int32} {x6 : Int32} {x7 : Int32} (h : jOk l G X cX8_makeCluster 8 ret RX8 hg nc)
    (k1 : J l G X Q 8 238 [.ref 58, .int x1, .int x2, .int x3, .int x4, .int x5, .int x6, .int x7] [] (wr mu 58 32 ((mu 58 32) + 1)) n) :
    J l G X Q 8 228 [.ref 58, .int x1, .int x2, .int x3, .int x4, .int x5, .int x6, .int x7] [] mu n := by
  refine J_aload_n h dX8_makeCluster_228 rfl rfl ?_
  refine J_dup h dX8_makeCluster_229 rfl ?_
  refine J_geti (k := 32) h dX8_makeCluster_230 jc8 rfl rfl (by decide) w1016 ?_
  refine J_iconst h dX8_makeCluster_233 ci_1 ?_
  refine J_iadd h dX8_makeCluster_234 ?_
  refine J_puti (k := 32) (ty0 := tyX8) h dX8_makeCluster_235 jc8 tyX8_ok nmX8 rfl rfl (by decide) rfl rfl rfl w1016 ?_
  exact k1
theorem rX8_makeCluster_48c {l : Launch} {G : jG} {X : jX} {Q : State → Prop} {n hg nc : Nat} {ret : Option FieldType} {mu : jM} {x1 : Int32} {x2 : Int32} {x3 : Int32} {x4 : Int32} {x5 : Int32} {x6 : Int32} {x7 : Int32} {y0 : Int32} {y2 : Int32} {y3 : Int32} {Qc : Int32 → jM → Prop} {h' : Nat} (h : jOk l G X cX8_makeCluster 8 ret RX8 hg nc) (hM : jCi l G yX8_sizeOf cX8_sizeOf 4 h' (some .int) (.ref 58 :: [.int y0]) mu Qc) (hh : h' < hg ∧ 4 ≤ 21) (hn : n ≤ nc)
    (kk : ∀ v mu', Qc v mu' → J l G X Q 8 51 [.ref 58, .int x1, .int x2, .int x3, .int x4, .int x5, .int x6, .int x7] (.int v :: [.int y2, .int y3]) mu' n) :
    J l G X Q 8 48 [.ref 58, .int x1, .int x2, .int x3, .int x4, .int x5, .int x6, .int x7] [.int y0, .ref 58, .int y2, .int y3] mu n :=
  J_callVi (As := [.int y0]) (rest := [.int y2, .int y3]) h dX8_makeCluster_48 hM (jgV w1273 w1275 w55 w84 w1276) rfl (ci := 8) rfl rfl nmX8_sizeOf rfl hh (Nat.le_of_ble_eq_true rfl) rfl kk hn
theorem rX8_makeCluster_51c {l : Launch} {G : jG} {X : jX} {Q : State → Prop} {n hg nc : Nat} {ret : Option FieldType} {mu : jM} {x1 : Int32} {x2 : Int32} {x3 : Int32} {x4 : Int32} {x5 : Int32} {x6 : Int32} {x7 : Int32} {y0 : Int32} {y1 : Int32} {y2 : Int32} (h : jOk l G X cX8_makeCluster 8 ret RX8 hg nc)
    (k2 : y2 < (y1 * y0) → J l G X Q 8 228 [.ref 58, .int x1, .int x2, .int x3, .int x4, .int x5, .int x6, .int x7] [] mu n)
    (k3 : ¬ y2 < (y1 * y0) → J l G X Q 8 61 [.ref 58, .int x1, .int x2, .int x3, .int (x4 + 1), .int x5, .int 0, .int x7] [] mu n) :
    J l G X Q 8 51 [.ref 58, .int x1, .int x2, .int x3, .int x4, .int x5, .int x6, .int x7] [.int y0, .int y1, .int y2] mu n := by
  refine J_imul h dX8_makeCluster_51 ?_
  refine J_icmp_lt (tgt := 228) h dX8_makeCluster_52 (by decide) (fun q1 => ?_) (fun q1 => ?_)
  · skip
    exact k2 q1
  · skip
    refine J_iinc h dX8_makeCluster_55 rfl (cc_1 _) (by decide) rfl ?_
    show J l G X Q 8 58 [.ref 58, .int x1, .int x2, .int x3, .int (x4 + 1), .int x5, .int x6, .int x7] [] mu n
    refine J_iconst h dX8_makeCluster_58 ci_0 ?_
    refine J_istore h dX8_makeCluster_59 (by decide) rfl ?_
    show J l G X Q 8 61 [.ref 58, .int x1, .int x2, .int x3, .int (x4 + 1), .int x5, .int 0, .int x7] [] mu n
    exact k3 q1
/-! LockstepNetModel.chosenLink(II)I -/
theorem rX8_chosenLink_0 {l : Launch} {G : jG} {X : jX} {Q : State → Prop} {n hg nc : Nat} {ret : Option FieldType} {mu : jM} {x1 : Int32} {x2 : Int32} (h : jOk l G X cX8_chosenLink 7 ret RX8 hg nc)
    (k1 : J l G X Q 7 10 [.ref 58, .int x1, .int x2, .int (-1), .int ((mu 58 2) - 1), .float 0, .float 0] [] mu n) :
    J l G X Q 7 0 [.ref 58, .int x1, .int x2, .float 0, .float 0, .float 0, .float 0] [] mu n := by
  refine J_iconst h dX8_chosenLink_0 ci_m1 ?_
  refine J_istore_n h dX8_chosenLink_1 rfl (by decide) rfl ?_
  show J l G X Q 7 2 [.ref 58, .int x1, .int x2, .int (-1), .float 0, .float 0, .float 0] [] mu n
  refine J_aload_n h dX8_chosenLink_2 rfl rfl ?_
  refine J_geti (k := 2) h dX8_chosenLink_3 jc8 rfl rfl (by decide) w986 ?_
  refine J_iconst h dX8_chosenLink_6 ci_1 ?_
  refine J_isub h dX8_chosenLink_7 ?_
  refine J_istore h dX8_chosenLink_8 (by decide) rfl ?_
  show J l G X Q 7 10 [.ref 58, .int x1, .int x2, .int (-1), .int ((mu 58 2) - 1), .float 0, .float 0] [] mu n
  exact k1
theorem rX8_chosenLink_10 {l : Launch} {G : jG} {X : jX} {Q : State → Prop} {n hg nc : Nat} {ret : Option FieldType} {mu : jM} {x1 : Int32} {x2 : Int32} {x3 : Int32} {x4 : Int32} (h : jOk l G X cX8_chosenLink 7 ret RX8 hg nc) (s3 : ¬ x4 < 0 → vp_in x4 60) (s4 : ¬ x4 < 0 → vp_in (mu 59 (x4).toNatClampNeg) 24) (s5 : ¬ x4 < 0 → vp_in x4 60) (s6 : ¬ x4 < 0 → vp_in (mu 60 (x4).toNatClampNeg) 24)
    (k2 : x4 < 0 → J l G X Q 7 86 [.ref 58, .int x1, .int x2, .int x3, .int x4, .float 0, .float 0] [.int x3] mu n)
    (k8 : ¬ x4 < 0 → x1 = x2 → J l G X Q 7 77 [.ref 58, .int x1, .int x2, .int x3, .int x4, .int (mu 84 ((mu 59 (x4).toNatClampNeg)).toNatClampNeg), .int (mu 84 ((mu 60 (x4).toNatClampNeg)).toNatClampNeg)] [] mu n)
    (k10 : ¬ x4 < 0 → ¬ x1 = x2 → ¬ (mu 84 ((mu 59 (x4).toNatClampNeg)).toNatClampNeg) = x1 → J l G X Q 7 60 [.ref 58, .int x1, .int x2, .int x3, .int x4, .int (mu 84 ((mu 59 (x4).toNatClampNeg)).toNatClampNeg), .int (mu 84 ((mu 60 (x4).toNatClampNeg)).toNatClampNeg)] [] mu n)
    (k12 : ¬ x4 < 0 → ¬ x1 = x2 → (mu 84 ((mu 59 (x4).toNatClampNeg)).toNatClampNeg) = x1 → (mu 84 ((mu 60 (x4).toNatClampNeg)).toNatClampNeg) = x2 → J l G X Q 7 72 [.ref 58, .int x1, .int x2, .int x3, .int x4, .int (mu 84 ((mu 59 (x4).toNatClampNeg)).toNatClampNeg), .int (mu 84 ((mu 60 (x4).toNatClampNeg)).toNatClampNeg)] [] mu n)
    (k13 : ¬ x4 < 0 → ¬ x1 = x2 → (mu 84 ((mu 59 (x4).toNatClampNeg)).toNatClampNeg) = x1 → ¬ (mu 84 ((mu 60 (x4).toNatClampNeg)).toNatClampNeg) = x2 → J l G X Q 7 60 [.ref 58, .int x1, .int x2, .int x3, .int x4, .int (mu 84 ((mu 59 (x4).toNatClampNeg)).toNatClampNeg), .int (mu 84 ((mu 60 (x4).toNatClampNeg)).toNatClampNeg)] [] mu n) :
    J l G X Q 7 10 [.ref 58, .int x1, .int x2, .int x3, .int x4, .float 0, .float 0] [] mu n := by
  refine J_iload h dX8_chosenLink_10 rfl ?_
  refine J_if_lt (tgt := 85) h dX8_chosenLink_12 (by decide) (fun q1 => ?_) (fun q1 => ?_)
  · skip
    refine J_iload_n h dX8_chosenLink_85 rfl rfl ?_
    exact k2 q1
  · skip
    refine J_aload_n h dX8_chosenLink_15 rfl rfl ?_
    refine J_getr (k := 33) h dX8_chosenLink_16 jc8 rfl rfl (by decide) w1017 ?_
    refine J_aload_n h dX8_chosenLink_19 rfl rfl ?_
    refine J_getr (k := 3) h dX8_chosenLink_20 jc8 rfl rfl (by decide) w987 ?_
    refine J_iload h dX8_chosenLink_23 rfl ?_
    refine J_iald h dX8_chosenLink_25 rfl (s3 q1) ?_
    refine J_iald h dX8_chosenLink_26 rfl (s4 q1) ?_
    refine J_istore h dX8_chosenLink_27 (by decide) rfl ?_
    show J l G X Q 7 29 [.ref 58, .int x1, .int x2, .int x3, .int x4, .int (mu 84 ((mu 59 (x4).toNatClampNeg)).toNatClampNeg), .float 0] [] mu n
    refine J_aload_n h dX8_chosenLink_29 rfl rfl ?_
    refine J_getr (k := 33) h dX8_chosenLink_30 jc8 rfl rfl (by decide) w1017 ?_
    refine J_aload_n h dX8_chosenLink_33 rfl rfl ?_
    refine J_getr (k := 4) h dX8_chosenLink_34 jc8 rfl rfl (by decide) w988 ?_
    refine J_iload h dX8_chosenLink_37 rfl ?_
    refine J_iald h dX8_chosenLink_39 rfl (s5 q1) ?_
    refine J_iald h dX8_chosenLink_40 rfl (s6 q1) ?_
    refine J_istore h dX8_chosenLink_41 (by decide) rfl ?_
    show J l G X Q 7 43 [.ref 58, .int x1, .int x2, .int x3, .int x4, .int (mu 84 ((mu 59 (x4).toNatClampNeg)).toNatClampNeg), .int (mu 84 ((mu 60 (x4).toNatClampNeg)).toNatClampNeg)] [] mu n
    refine J_iload_n h dX8_chosenLink_43 rfl rfl ?_
    refine J_iload_n h dX8_chosenLink_44 rfl rfl ?_
    refine J_icmp_eq (tgt := 77) h dX8_chosenLink_45 (by decide) (fun q7 => ?_) (fun q7 => ?_)
    · skip
      exact k8 q1 q7
    · skip
      refine J_iload h dX8_chosenLink_48 rfl ?_
      refine J_iload_n h dX8_chosenLink_50 rfl rfl ?_
      refine J_icmp_ne (tgt := 60) h dX8_chosenLink_51 (by decide) (fun q9 => ?_) (fun q9 => ?_)
      · skip
        exact k10 q1 q7 q9
      · skip
        refine J_iload h dX8_chosenLink_54 rfl ?_
        refine J_iload_n h dX8_chosenLink_56 rfl rfl ?_
        refine J_icmp_eq (tgt := 72) h dX8_chosenLink_57 (by decide) (fun q11 => ?_) (fun q11 => ?_)
        · skip
          exact k12 q1 q7 q9 q11
        · skip
          exact k13 q1 q7 q9 q11
theorem rX8_chosenLink_77 {l : Launch} {G : jG} {X : jX} {Q : State → Prop} {n hg nc : Nat} {ret : Option FieldType} {mu : jM} {x1 : Int32} {x2 : Int32} {x3 : Int32} {x4 : Int32} {x5 : Int32} {x6 : Int32} (h : jOk l G X cX8_chosenLink 7 ret RX8 hg nc)
    (k1 : J l G X Q 7 10 [.ref 58, .int x1, .int x2, .int x3, .int (x4 + (-1)), .int x5, .int x6] [] mu n) :
    J l G X Q 7 77 [.ref 58, .int x1, .int x2, .int x3, .int x4, .int x5, .int x6] [] mu n := by
  refine J_iload_n h dX8_chosenLink_77 rfl rfl ?_
  refine J_istore_n h dX8_chosenLink_78 rfl (by decide) rfl ?_
  show J l G X Q 7 79 [.ref 58, .int x1, .int x2, .int x3, .int x4, .int x5, .int x6] [] mu n
  refine J_iinc h dX8_chosenLink_79 rfl (cc_m1 _) (by decide) rfl ?_
  show J l G X Q 7 82 [.ref 58, .int x1, .int x2, .int x3, .int (x4 + (-1)), .int x5, .int x6] [] mu n
  refine J_goto (tgt := 10) h dX8_chosenLink_82 (by decide) ?_
  exact k1
theorem rX8_chosenLink_60 {l : Launch} {G : jG} {X : jX} {Q : State → Prop} {n hg nc : Nat} {ret : Option FieldType} {mu : jM} {x1 : Int32} {x2 : Int32} {x3 : Int32} {x4 : Int32} {x5 : Int32} {x6 : Int32} (h : jOk l G X cX8_chosenLink 7 ret RX8 hg nc)
    (k2 : ¬ x5 = x2 → J l G X Q 7 77 [.ref 58, .int x1, .int x2, .int x3, .int x4, .int x5, .int x6] [] mu n)
    (k4 : x5 = x2 → ¬ x6 = x1 → J l G X Q 7 77 [.ref 58, .int x1, .int x2, .int x3, .int x4, .int x5, .int x6] [] mu n)
    (k5 : x5 = x2 → x6 = x1 → J l G X Q 7 72 [.ref 58, .int x1, .int x2, .int x3, .int x4, .int x5, .int x6] [] mu n) :
    J l G X Q 7 60 [.ref 58, .int x1, .int x2, .int x3, .int x4, .int x5, .int x6] [] mu n := by
  refine J_iload h dX8_chosenLink_60 rfl ?_
  refine J_iload_n h dX8_chosenLink_62 rfl rfl ?_
  refine J_icmp_ne (tgt := 77) h dX8_chosenLink_63 (by decide) (fun q1 => ?_) (fun q1 => ?_)
  · skip
    exact k2 q1
  · skip
    refine J_iload h dX8_chosenLink_66 rfl ?_
    refine J_iload_n h dX8_chosenLink_68 rfl rfl ?_
    refine J_icmp_ne (tgt := 77) h dX8_chosenLink_69 (by decide) (fun q3 => ?_) (fun q3 => ?_)
    · skip
      exact k4 q1 q3
    · skip
      exact k5 q1 q3
theorem rX8_chosenLink_72 {l : Launch} {G : jG} {X : jX} {Q : State → Prop} {n hg nc : Nat} {ret : Option FieldType} {mu : jM} {x1 : Int32} {x2 : Int32} {x3 : Int32} {x4 : Int32} {x5 : Int32} {x6 : Int32} (h : jOk l G X cX8_chosenLink 7 ret RX8 hg nc)
    (k1 : J l G X Q 7 10 [.ref 58, .int x1, .int x2, .int x4, .int (x4 + (-1)), .int x5, .int x6] [] mu n) :
    J l G X Q 7 72 [.ref 58, .int x1, .int x2, .int x3, .int x4, .int x5, .int x6] [] mu n := by
  refine J_iload h dX8_chosenLink_72 rfl ?_
  refine J_goto (tgt := 78) h dX8_chosenLink_74 (by decide) ?_
  refine J_istore_n h dX8_chosenLink_78 rfl (by decide) rfl ?_
  show J l G X Q 7 79 [.ref 58, .int x1, .int x2, .int x4, .int x4, .int x5, .int x6] [] mu n
  refine J_iinc h dX8_chosenLink_79 rfl (cc_m1 _) (by decide) rfl ?_
  show J l G X Q 7 82 [.ref 58, .int x1, .int x2, .int x4, .int (x4 + (-1)), .int x5, .int x6] [] mu n
  refine J_goto (tgt := 10) h dX8_chosenLink_82 (by decide) ?_
  exact k1
theorem rX8_chosenLink_10b {l : Launch} {G : jG} {X : jX} {Q : State → Prop} {n hg nc : Nat} {ret : Option FieldType} {mu : jM} {x1 : Int32} {x2 : Int32} {x3 : Int32} {x4 : Int32} {x5 : Int32} {x6 : Int32} (h : jOk l G X cX8_chosenLink 7 ret RX8 hg nc) (s3 : ¬ x4 < 0 → vp_in x4 60) (s4 : ¬ x4 < 0 → vp_in (mu 59 (x4).toNatClampNeg) 24) (s5 : ¬ x4 < 0 → vp_in x4 60) (s6 : ¬ x4 < 0 → vp_in (mu 60 (x4).toNatClampNeg) 24)
    (k2 : x4 < 0 → J l G X Q 7 86 [.ref 58, .int x1, .int x2, .int x3, .int x4, .int x5, .int x6] [.int x3] mu n)
    (k8 : ¬ x4 < 0 → x1 = x2 → J l G X Q 7 77 [.ref 58, .int x1, .int x2, .int x3, .int x4, .int (mu 84 ((mu 59 (x4).toNatClampNeg)).toNatClampNeg), .int (mu 84 ((mu 60 (x4).toNatClampNeg)).toNatClampNeg)] [] mu n)
    (k10 : ¬ x4 < 0 → ¬ x1 = x2 → ¬ (mu 84 ((mu 59 (x4).toNatClampNeg)).toNatClampNeg) = x1 → J l G X Q 7 60 [.ref 58, .int x1, .int x2, .int x3, .int x4, .int (mu 84 ((mu 59 (x4).toNatClampNeg)).toNatClampNeg), .int (mu 84 ((mu 60 (x4).toNatClampNeg)).toNatClampNeg)] [] mu n)
    (k12 : ¬ x4 < 0 → ¬ x1 = x2 → (mu 84 ((mu 59 (x4).toNatClampNeg)).toNatClampNeg) = x1 → (mu 84 ((mu 60 (x4).toNatClampNeg)).toNatClampNeg) = x2 → J l G X Q 7 72 [.ref 58, .int x1, .int x2, .int x3, .int x4, .int (mu 84 ((mu 59 (x4).toNatClampNeg)).toNatClampNeg), .int (mu 84 ((mu 60 (x4).toNatClampNeg)).toNatClampNeg)] [] mu n)
    (k13 : ¬ x4 < 0 → ¬ x1 = x2 → (mu 84 ((mu 59 (x4).toNatClampNeg)).toNatClampNeg) = x1 → ¬ (mu 84 ((mu 60 (x4).toNatClampNeg)).toNatClampNeg) = x2 → J l G X Q 7 60 [.ref 58, .int x1, .int x2, .int x3, .int x4, .int (mu 84 ((mu 59 (x4).toNatClampNeg)).toNatClampNeg), .int (mu 84 ((mu 60 (x4).toNatClampNeg)).toNatClampNeg)] [] mu n) :
    J l G X Q 7 10 [.ref 58, .int x1, .int x2, .int x3, .int x4, .int x5, .int x6] [] mu n := by
  refine J_iload h dX8_chosenLink_10 rfl ?_
  refine J_if_lt (tgt := 85) h dX8_chosenLink_12 (by decide) (fun q1 => ?_) (fun q1 => ?_)
  · skip
    refine J_iload_n h dX8_chosenLink_85 rfl rfl ?_
    exact k2 q1
  · skip
    refine J_aload_n h dX8_chosenLink_15 rfl rfl ?_
    refine J_getr (k := 33) h dX8_chosenLink_16 jc8 rfl rfl (by decide) w1017 ?_
    refine J_aload_n h dX8_chosenLink_19 rfl rfl ?_
    refine J_getr (k := 3) h dX8_chosenLink_20 jc8 rfl rfl (by decide) w987 ?_
    refine J_iload h dX8_chosenLink_23 rfl ?_
    refine J_iald h dX8_chosenLink_25 rfl (s3 q1) ?_
    refine J_iald h dX8_chosenLink_26 rfl (s4 q1) ?_
    refine J_istore h dX8_chosenLink_27 (by decide) rfl ?_
    show J l G X Q 7 29 [.ref 58, .int x1, .int x2, .int x3, .int x4, .int (mu 84 ((mu 59 (x4).toNatClampNeg)).toNatClampNeg), .int x6] [] mu n
    refine J_aload_n h dX8_chosenLink_29 rfl rfl ?_
    refine J_getr (k := 33) h dX8_chosenLink_30 jc8 rfl rfl (by decide) w1017 ?_
    refine J_aload_n h dX8_chosenLink_33 rfl rfl ?_
    refine J_getr (k := 4) h dX8_chosenLink_34 jc8 rfl rfl (by decide) w988 ?_
    refine J_iload h dX8_chosenLink_37 rfl ?_
    refine J_iald h dX8_chosenLink_39 rfl (s5 q1) ?_
    refine J_iald h dX8_chosenLink_40 rfl (s6 q1) ?_
    refine J_istore h dX8_chosenLink_41 (by decide) rfl ?_
    show J l G X Q 7 43 [.ref 58, .int x1, .int x2, .int x3, .int x4, .int (mu 84 ((mu 59 (x4).toNatClampNeg)).toNatClampNeg), .int (mu 84 ((mu 60 (x4).toNatClampNeg)).toNatClampNeg)] [] mu n
    refine J_iload_n h dX8_chosenLink_43 rfl rfl ?_
    refine J_iload_n h dX8_chosenLink_44 rfl rfl ?_
    refine J_icmp_eq (tgt := 77) h dX8_chosenLink_45 (by decide) (fun q7 => ?_) (fun q7 => ?_)
    · skip
      exact k8 q1 q7
    · skip
      refine J_iload h dX8_chosenLink_48 rfl ?_
      refine J_iload_n h dX8_chosenLink_50 rfl rfl ?_
      refine J_icmp_ne (tgt := 60) h dX8_chosenLink_51 (by decide) (fun q9 => ?_) (fun q9 => ?_)
      · skip
        exact k10 q1 q7 q9
      · skip
        refine J_iload h dX8_chosenLink_54 rfl ?_
        refine J_iload_n h dX8_chosenLink_56 rfl rfl ?_
        refine J_icmp_eq (tgt := 72) h dX8_chosenLink_57 (by decide) (fun q11 => ?_) (fun q11 => ?_)
        · skip
          exact k12 q1 q7 q9 q11
        · skip
          exact k13 q1 q7 q9 q11
/-! LockstepNetModel.makeClusters(I)V -/
theorem rX8_makeClusters_0 {l : Launch} {G : jG} {X : jX} {Q : State → Prop} {n hg nc : Nat} {ret : Option FieldType} {mu : jM} {x1 : Int32} (h : jOk l G X cX8_makeClusters 3 ret RX8 hg nc)
    (k1 : J l G X Q 3 7 [.ref 58, .int x1, .int 0] [] (wr mu 58 32 0) n) :
    J l G X Q 3 0 [.ref 58, .int x1, .float 0] [] mu n := by
  refine J_aload_n h dX8_makeClusters_0 rfl rfl ?_
  refine J_iconst h dX8_makeClusters_1 ci_0 ?_
  refine J_puti (k := 32) (ty0 := tyX8) h dX8_makeClusters_2 jc8 tyX8_ok nmX8 rfl rfl (by decide) rfl rfl rfl w1016 ?_
  refine J_iconst h dX8_makeClusters_5 ci_0 ?_
  refine J_istore_n h dX8_makeClusters_6 rfl (by decide) rfl ?_
  show J l G X Q 3 7 [.ref 58, .int x1, .int 0] [] (wr mu 58 32 0) n
  exact k1
theorem rX8_makeClusters_7 {l : Launch} {G : jG} {X : jX} {Q : State → Prop} {n hg nc : Nat} {ret : Option FieldType} {mu : jM} {x1 : Int32} {x2 : Int32} (h : jOk l G X cX8_makeClusters 3 ret RX8 hg nc) (s3 : ¬ (mu 58 1) ≤ x2 → vp_in x2 24) (s4 : ¬ (mu 58 1) ≤ x2 → vp_in x2 24)
    (k2 : (mu 58 1) ≤ x2 → J l G X Q 3 37 [.ref 58, .int x1, .int 0] [] mu n)
    (k5 : ¬ (mu 58 1) ≤ x2 → J l G X Q 3 7 [.ref 58, .int x1, .int (x2 + 1)] [] (wr (wr mu 84 (x2).toNatClampNeg (-1)) 85 (x2).toNatClampNeg (-1)) n) :
    J l G X Q 3 7 [.ref 58, .int x1, .int x2] [] mu n := by
  refine J_iload_n h dX8_makeClusters_7 rfl rfl ?_
  refine J_aload_n h dX8_makeClusters_8 rfl rfl ?_
  refine J_geti (k := 1) h dX8_makeClusters_9 jc8 rfl rfl (by decide) w985 ?_
  refine J_icmp_ge (tgt := 35) h dX8_makeClusters_12 (by decide) (fun q1 => ?_) (fun q1 => ?_)
  · skip
    refine J_iconst h dX8_makeClusters_35 ci_0 ?_
    refine J_istore_n h dX8_makeClusters_36 rfl (by decide) rfl ?_
    show J l G X Q 3 37 [.ref 58, .int x1, .int 0] [] mu n
    exact k2 q1
  · skip
    refine J_aload_n h dX8_makeClusters_15 rfl rfl ?_
    refine J_getr (k := 33) h dX8_makeClusters_16 jc8 rfl rfl (by decide) w1017 ?_
    refine J_iload_n h dX8_makeClusters_19 rfl rfl ?_
    refine J_iconst h dX8_makeClusters_20 ci_m1 ?_
    refine J_iast h dX8_makeClusters_21 rfl (s3 q1) ?_
    refine J_aload_n h dX8_makeClusters_22 rfl rfl ?_
    refine J_getr (k := 34) h dX8_makeClusters_23 jc8 rfl rfl (by decide) w1018 ?_
    refine J_iload_n h dX8_makeClusters_26 rfl rfl ?_
    refine J_iconst h dX8_makeClusters_27 ci_m1 ?_
    refine J_iast h dX8_makeClusters_28 rfl (s4 q1) ?_
    refine J_iinc h dX8_makeClusters_29 rfl (cc_1 _) (by decide) rfl ?_
    show J l G X Q 3 32 [.ref 58, .int x1, .int (x2 + 1)] [] (wr (wr mu 84 (x2).toNatClampNeg (-1)) 85 (x2).toNatClampNeg (-1)) n
    refine J_goto (tgt := 7) h dX8_makeClusters_32 (by decide) ?_
    exact k5 q1
theorem rX8_makeClusters_37 {l : Launch} {G : jG} {X : jX} {Q : State → Prop} {n hg nc : Nat} {ret : Option FieldType} {mu : jM} {x1 : Int32} {x2 : Int32} (h : jOk l G X cX8_makeClusters 3 ret RX8 hg nc) (s3 : ¬ (mu 58 1) ≤ x2 → vp_in x2 24)
    (k2 : (mu 58 1) ≤ x2 → J l G X Q 3 69 [.ref 58, .int x1, .int 0] [] mu n)
    (k5 : ¬ (mu 58 1) ≤ x2 → ¬ (mu 84 (x2).toNatClampNeg) = (-1) → J l G X Q 3 61 [.ref 58, .int x1, .int x2] [] mu n)
    (k6 : ¬ (mu 58 1) ≤ x2 → (mu 84 (x2).toNatClampNeg) = (-1) → J l G X Q 3 58 [.ref 58, .int x1, .int x2] [.int x1, .int x2, .ref 58] mu n) :
    J l G X Q 3 37 [.ref 58, .int x1, .int x2] [] mu n := by
  refine J_iload_n h dX8_makeClusters_37 rfl rfl ?_
  refine J_aload_n h dX8_makeClusters_38 rfl rfl ?_
  refine J_geti (k := 1) h dX8_makeClusters_39 jc8 rfl rfl (by decide) w985 ?_
  refine J_icmp_ge (tgt := 67) h dX8_makeClusters_42 (by decide) (fun q1 => ?_) (fun q1 => ?_)
  · skip
    refine J_iconst h dX8_makeClusters_67 ci_0 ?_
    refine J_istore_n h dX8_makeClusters_68 rfl (by decide) rfl ?_
    show J l G X Q 3 69 [.ref 58, .int x1, .int 0] [] mu n
    exact k2 q1
  · skip
    refine J_aload_n h dX8_makeClusters_45 rfl rfl ?_
    refine J_getr (k := 33) h dX8_makeClusters_46 jc8 rfl rfl (by decide) w1017 ?_
    refine J_iload_n h dX8_makeClusters_49 rfl rfl ?_
    refine J_iald h dX8_makeClusters_50 rfl (s3 q1) ?_
    refine J_iconst h dX8_makeClusters_51 ci_m1 ?_
    refine J_icmp_ne (tgt := 61) h dX8_makeClusters_52 (by decide) (fun q4 => ?_) (fun q4 => ?_)
    · skip
      exact k5 q1 q4
    · skip
      refine J_aload_n h dX8_makeClusters_55 rfl rfl ?_
      refine J_iload_n h dX8_makeClusters_56 rfl rfl ?_
      refine J_iload_n h dX8_makeClusters_57 rfl rfl ?_
      exact k6 q1 q4
theorem rX8_makeClusters_69 {l : Launch} {G : jG} {X : jX} {Q : State → Prop} {n hg nc : Nat} {ret : Option FieldType} {mu : jM} {x1 : Int32} {x2 : Int32} (h : jOk l G X cX8_makeClusters 3 ret RX8 hg nc) (s3 : ¬ (mu 58 2) ≤ x2 → vp_in x2 60) (s4 : ¬ (mu 58 2) ≤ x2 → vp_in (mu 59 (x2).toNatClampNeg) 24) (s5 : ¬ (mu 58 2) ≤ x2 → vp_in x2 60) (s6 : ¬ (mu 58 2) ≤ x2 → vp_in (mu 60 (x2).toNatClampNeg) 24)
    (k2 : (mu 58 2) ≤ x2 → J l G X Q 3 124 [.ref 58, .int x1, .int x2] [] mu n)
    (k7 : ¬ (mu 58 2) ≤ x2 → J l G X Q 3 105 [.ref 58, .int x1, .int x2] [.int (mu 84 ((mu 60 (x2).toNatClampNeg)).toNatClampNeg), .int (mu 84 ((mu 59 (x2).toNatClampNeg)).toNatClampNeg), .ref 58, .int x2, .ref 87] mu n) :
    J l G X Q 3 69 [.ref 58, .int x1, .int x2] [] mu n := by
  refine J_iload_n h dX8_makeClusters_69 rfl rfl ?_
  refine J_aload_n h dX8_makeClusters_70 rfl rfl ?_
  refine J_geti (k := 2) h dX8_makeClusters_71 jc8 rfl rfl (by decide) w986 ?_
  refine J_icmp_ge (tgt := 124) h dX8_makeClusters_74 (by decide) (fun q1 => ?_) (fun q1 => ?_)
  · skip
    exact k2 q1
  · skip
    refine J_aload_n h dX8_makeClusters_77 rfl rfl ?_
    refine J_getr (k := 36) h dX8_makeClusters_78 jc8 rfl rfl (by decide) w1020 ?_
    refine J_iload_n h dX8_makeClusters_81 rfl rfl ?_
    refine J_aload_n h dX8_makeClusters_82 rfl rfl ?_
    refine J_aload_n h dX8_makeClusters_83 rfl rfl ?_
    refine J_getr (k := 33) h dX8_makeClusters_84 jc8 rfl rfl (by decide) w1017 ?_
    refine J_aload_n h dX8_makeClusters_87 rfl rfl ?_
    refine J_getr (k := 3) h dX8_makeClusters_88 jc8 rfl rfl (by decide) w987 ?_
    refine J_iload_n h dX8_makeClusters_91 rfl rfl ?_
    refine J_iald h dX8_makeClusters_92 rfl (s3 q1) ?_
    refine J_iald h dX8_makeClusters_93 rfl (s4 q1) ?_
    refine J_aload_n h dX8_makeClusters_94 rfl rfl ?_
    refine J_getr (k := 33) h dX8_makeClusters_95 jc8 rfl rfl (by decide) w1017 ?_
    refine J_aload_n h dX8_makeClusters_98 rfl rfl ?_
    refine J_getr (k := 4) h dX8_makeClusters_99 jc8 rfl rfl (by decide) w988 ?_
    refine J_iload_n h dX8_makeClusters_102 rfl rfl ?_
    refine J_iald h dX8_makeClusters_103 rfl (s5 q1) ?_
    refine J_iald h dX8_makeClusters_104 rfl (s6 q1) ?_
    exact k7 q1
theorem rX8_makeClusters_61 {l : Launch} {G : jG} {X : jX} {Q : State → Prop} {n hg nc : Nat} {ret : Option FieldType} {mu : jM} {x1 : Int32} {x2 : Int32} (h : jOk l G X cX8_makeClusters 3 ret RX8 hg nc)
    (k1 : J l G X Q 3 37 [.ref 58, .int x1, .int (x2 + 1)] [] mu n) :
    J l G X Q 3 61 [.ref 58, .int x1, .int x2] [] mu n := by
  refine J_iinc h dX8_makeClusters_61 rfl (cc_1 _) (by decide) rfl ?_
  show J l G X Q 3 64 [.ref 58, .int x1, .int (x2 + 1)] [] mu n
  refine J_goto (tgt := 37) h dX8_makeClusters_64 (by decide) ?_
  exact k1
theorem rX8_makeClusters_58 {l : Launch} {G : jG} {X : jX} {Q : State → Prop} {n hg nc : Nat} {ret : Option FieldType} {mu : jM} {x1 : Int32} {x2 : Int32} {y0 : Int32} {y1 : Int32} {Qc : jM → Prop} {h' : Nat} (h : jOk l G X cX8_makeClusters 3 ret RX8 hg nc) (hM : jCv l G yX8_makeCluster cX8_makeCluster 8 h' (.ref 58 :: [.int y1, .int y0]) mu Qc) (hh : h' < hg ∧ 8 ≤ 21) (hn : n ≤ nc)
    (kk : ∀ mu', Qc mu' → J l G X Q 3 61 [.ref 58, .int x1, .int x2] [] mu' n) :
    J l G X Q 3 58 [.ref 58, .int x1, .int x2] [.int y0, .int y1, .ref 58] mu n :=
  J_callV (As := [.int y1, .int y0]) (rest := []) h dX8_makeClusters_58 hM (jgV w1265 w1267 w53 w84 w1268) rfl (ci := 8) rfl rfl nmX8_makeCluster rfl hh (Nat.le_of_ble_eq_true rfl) rfl kk hn
theorem rX8_makeClusters_105 {l : Launch} {G : jG} {X : jX} {Q : State → Prop} {n hg nc : Nat} {ret : Option FieldType} {mu : jM} {x1 : Int32} {x2 : Int32} {y0 : Int32} {y1 : Int32} {y3 : Int32} {Qc : Int32 → jM → Prop} {h' : Nat} (h : jOk l G X cX8_makeClusters 3 ret RX8 hg nc) (hM : jCi l G yX8_chosenLink cX8_chosenLink 7 h' (some .int) (.ref 58 :: [.int y1, .int y0]) mu Qc) (hh : h' < hg ∧ 7 ≤ 21) (hn : n ≤ nc)
    (kk : ∀ v mu', Qc v mu' → J l G X Q 3 108 [.ref 58, .int x1, .int x2] (.int v :: [.int y3, .ref 87]) mu' n) :
    J l G X Q 3 105 [.ref 58, .int x1, .int x2] [.int y0, .int y1, .ref 58, .int y3, .ref 87] mu n :=
  J_callVi (As := [.int y1, .int y0]) (rest := [.int y3, .ref 87]) h dX8_makeClusters_105 hM (jgV w1277 w1279 w56 w84 w1280) rfl (ci := 8) rfl rfl nmX8_chosenLink rfl hh (Nat.le_of_ble_eq_true rfl) rfl kk hn
theorem rX8_makeClusters_108 {l : Launch} {G : jG} {X : jX} {Q : State → Prop} {n hg nc : Nat} {ret : Option FieldType} {mu : jM} {x1 : Int32} {x2 : Int32} {y0 : Int32} {y1 : Int32} (h : jOk l G X cX8_makeClusters 3 ret RX8 hg nc) (s2 : ¬ y0 = x2 → vp_in y1 60) (s4 : y0 = x2 → vp_in y1 60)
    (k3 : ¬ y0 = x2 → J l G X Q 3 69 [.ref 58, .int x1, .int (x2 + 1)] [] (wr mu 87 (y1).toNatClampNeg (vp_nar .boolean 0)) n)
    (k5 : y0 = x2 → J l G X Q 3 69 [.ref 58, .int x1, .int (x2 + 1)] [] (wr mu 87 (y1).toNatClampNeg (vp_nar .boolean 1)) n) :
    J l G X Q 3 108 [.ref 58, .int x1, .int x2] [.int y0, .int y1, .ref 87] mu n := by
  refine J_iload_n h dX8_makeClusters_108 rfl rfl ?_
  refine J_icmp_ne (tgt := 116) h dX8_makeClusters_109 (by decide) (fun q1 => ?_) (fun q1 => ?_)
  · skip
    refine J_iconst h dX8_makeClusters_116 ci_0 ?_
    refine J_zast h dX8_makeClusters_117 rfl (s2 q1) ?_
    refine J_iinc h dX8_makeClusters_118 rfl (cc_1 _) (by decide) rfl ?_
    show J l G X Q 3 121 [.ref 58, .int x1, .int (x2 + 1)] [] (wr mu 87 (y1).toNatClampNeg (vp_nar .boolean 0)) n
    refine J_goto (tgt := 69) h dX8_makeClusters_121 (by decide) ?_
    exact k3 q1
  · skip
    refine J_iconst h dX8_makeClusters_112 ci_1 ?_
    refine J_goto (tgt := 117) h dX8_makeClusters_113 (by decide) ?_
    refine J_zast h dX8_makeClusters_117 rfl (s4 q1) ?_
    refine J_iinc h dX8_makeClusters_118 rfl (cc_1 _) (by decide) rfl ?_
    show J l G X Q 3 121 [.ref 58, .int x1, .int (x2 + 1)] [] (wr mu 87 (y1).toNatClampNeg (vp_nar .boolean 1)) n
    refine J_goto (tgt := 69) h dX8_makeClusters_121 (by decide) ?_
    exact k5 q1
/-! LockstepNetModel.prepare(II)I -/
theorem rX8_prepare_0 {l : Launch} {G : jG} {X : jX} {Q : State → Prop} {n hg nc : Nat} {ret : Option FieldType} {mu : jM} {x1 : Int32} {x2 : Int32} (h : jOk l G X cX8_prepare 4 ret RX8 hg nc)
    (k3 : x1 < 0 → J l G X Q 4 63 [.ref 58, .int x1, .int x2, .float 0] [.int 0] (wr mu 58 0 1) n)
    (k6 : ¬ x1 < 0 → 2 < x1 → J l G X Q 4 63 [.ref 58, .int x1, .int x2, .float 0] [.int 0] (wr mu 58 0 1) n)
    (k9 : ¬ x1 < 0 → ¬ 2 < x1 → x2 < 2 → J l G X Q 4 63 [.ref 58, .int x1, .int x2, .float 0] [.int 0] (wr mu 58 0 1) n)
    (k13 : ¬ x1 < 0 → ¬ 2 < x1 → ¬ x2 < 2 → x2 ≤ 8 → ¬ (mu 58 18) = 0 → J l G X Q 4 63 [.ref 58, .int x1, .int x2, .float 0] [.int 0] (wr mu 58 0 2) n)
    (k14 : ¬ x1 < 0 → ¬ 2 < x1 → ¬ x2 < 2 → x2 ≤ 8 → (mu 58 18) = 0 → J l G X Q 4 33 [.ref 58, .int x1, .int x2, .float 0] [.ref 58, .ref 58] mu n)
    (k16 : ¬ x1 < 0 → ¬ 2 < x1 → ¬ x2 < 2 → ¬ x2 ≤ 8 → J l G X Q 4 63 [.ref 58, .int x1, .int x2, .float 0] [.int 0] (wr mu 58 0 1) n) :
    J l G X Q 4 0 [.ref 58, .int x1, .int x2, .float 0] [] mu n := by
  refine J_aload_n h dX8_prepare_0 rfl rfl ?_
  refine J_iload_n h dX8_prepare_1 rfl rfl ?_
  refine J_if_lt (tgt := 21) h dX8_prepare_2 (by decide) (fun q1 => ?_) (fun q1 => ?_)
  · skip
    refine J_iconst h dX8_prepare_21 ci_1 ?_
    refine J_goto (tgt := 52) h dX8_prepare_22 (by decide) ?_
    refine J_puti (k := 0) (ty0 := tyX8) h dX8_prepare_52 jc8 tyX8_ok nmX8 rfl rfl (by decide) rfl rfl rfl w984 ?_
    refine J_aload_n h dX8_prepare_55 rfl rfl ?_
    refine J_geti (k := 0) h dX8_prepare_56 jc8 rfl rfl (by decide) w984 ?_
    refine J_if_le (tgt := 64) h dX8_prepare_59 (by decide) (fun q2 => ?_) (fun q2 => ?_)
    · skip
      exact absurd (show (1 : Int32) ≤ (0 : Int32) from q2) (by decide)
    · skip
      refine J_iconst h dX8_prepare_62 ci_0 ?_
      exact k3 q1
  · skip
    refine J_iload_n h dX8_prepare_5 rfl rfl ?_
    refine J_iconst h dX8_prepare_6 ci_2 ?_
    refine J_icmp_gt (tgt := 21) h dX8_prepare_7 (by decide) (fun q4 => ?_) (fun q4 => ?_)
    · skip
      refine J_iconst h dX8_prepare_21 ci_1 ?_
      refine J_goto (tgt := 52) h dX8_prepare_22 (by decide) ?_
      refine J_puti (k := 0) (ty0 := tyX8) h dX8_prepare_52 jc8 tyX8_ok nmX8 rfl rfl (by decide) rfl rfl rfl w984 ?_
      refine J_aload_n h dX8_prepare_55 rfl rfl ?_
      refine J_geti (k := 0) h dX8_prepare_56 jc8 rfl rfl (by decide) w984 ?_
      refine J_if_le (tgt := 64) h dX8_prepare_59 (by decide) (fun q5 => ?_) (fun q5 => ?_)
      · skip
        exact absurd (show (1 : Int32) ≤ (0 : Int32) from q5) (by decide)
      · skip
        refine J_iconst h dX8_prepare_62 ci_0 ?_
        exact k6 q1 q4
    · skip
      refine J_iload_n h dX8_prepare_10 rfl rfl ?_
      refine J_iconst h dX8_prepare_11 ci_2 ?_
      refine J_icmp_lt (tgt := 21) h dX8_prepare_12 (by decide) (fun q7 => ?_) (fun q7 => ?_)
      · skip
        refine J_iconst h dX8_prepare_21 ci_1 ?_
        refine J_goto (tgt := 52) h dX8_prepare_22 (by decide) ?_
        refine J_puti (k := 0) (ty0 := tyX8) h dX8_prepare_52 jc8 tyX8_ok nmX8 rfl rfl (by decide) rfl rfl rfl w984 ?_
        refine J_aload_n h dX8_prepare_55 rfl rfl ?_
        refine J_geti (k := 0) h dX8_prepare_56 jc8 rfl rfl (by decide) w984 ?_
        refine J_if_le (tgt := 64) h dX8_prepare_59 (by decide) (fun q8 => ?_) (fun q8 => ?_)
        · skip
          exact absurd (show (1 : Int32) ≤ (0 : Int32) from q8) (by decide)
        · skip
          refine J_iconst h dX8_prepare_62 ci_0 ?_
          exact k9 q1 q4 q7
      · skip
        refine J_iload_n h dX8_prepare_15 rfl rfl ?_
        refine J_bipush h dX8_prepare_16 cb_8 ?_
        refine J_icmp_le (tgt := 25) h dX8_prepare_18 (by decide) (fun q10 => ?_) (fun q10 => ?_)
        · skip
          refine J_aload_n h dX8_prepare_25 rfl rfl ?_
          refine J_geti (k := 18) h dX8_prepare_26 jc8 rfl rfl (by decide) w1002 ?_
          refine J_if_ne (tgt := 47) h dX8_prepare_29 (by decide) (fun q11 => ?_) (fun q11 => ?_)
          · skip
            refine J_iconst h dX8_prepare_47 ci_2 ?_
            refine J_goto (tgt := 52) h dX8_prepare_48 (by decide) ?_
            refine J_puti (k := 0) (ty0 := tyX8) h dX8_prepare_52 jc8 tyX8_ok nmX8 rfl rfl (by decide) rfl rfl rfl w984 ?_
            refine J_aload_n h dX8_prepare_55 rfl rfl ?_
            refine J_geti (k := 0) h dX8_prepare_56 jc8 rfl rfl (by decide) w984 ?_
            refine J_if_le (tgt := 64) h dX8_prepare_59 (by decide) (fun q12 => ?_) (fun q12 => ?_)
            · skip
              exact absurd (show (2 : Int32) ≤ (0 : Int32) from q12) (by decide)
            · skip
              refine J_iconst h dX8_prepare_62 ci_0 ?_
              exact k13 q1 q4 q7 q10 q11
          · skip
            refine J_aload_n h dX8_prepare_32 rfl rfl ?_
            exact k14 q1 q4 q7 q10 q11
        · skip
          refine J_iconst h dX8_prepare_21 ci_1 ?_
          refine J_goto (tgt := 52) h dX8_prepare_22 (by decide) ?_
          refine J_puti (k := 0) (ty0 := tyX8) h dX8_prepare_52 jc8 tyX8_ok nmX8 rfl rfl (by decide) rfl rfl rfl w984 ?_
          refine J_aload_n h dX8_prepare_55 rfl rfl ?_
          refine J_geti (k := 0) h dX8_prepare_56 jc8 rfl rfl (by decide) w984 ?_
          refine J_if_le (tgt := 64) h dX8_prepare_59 (by decide) (fun q15 => ?_) (fun q15 => ?_)
          · skip
            exact absurd (show (1 : Int32) ≤ (0 : Int32) from q15) (by decide)
          · skip
            refine J_iconst h dX8_prepare_62 ci_0 ?_
            exact k16 q1 q4 q7 q10
theorem rX8_prepare_33 {l : Launch} {G : jG} {X : jX} {Q : State → Prop} {n hg nc : Nat} {ret : Option FieldType} {mu : jM} {x1 : Int32} {x2 : Int32} {Qc : Int32 → jM → Prop} {h' : Nat} (h : jOk l G X cX8_prepare 4 ret RX8 hg nc) (hM : jCi l G yX8_wrongWord cX8_wrongWord 2 h' (some .int) (.ref 58 :: []) mu Qc) (hh : h' < hg ∧ 2 ≤ 21) (hn : n ≤ nc)
    (kk : ∀ v mu', Qc v mu' → J l G X Q 4 36 [.ref 58, .int x1, .int x2, .float 0] (.int v :: [.ref 58]) mu' n) :
    J l G X Q 4 33 [.ref 58, .int x1, .int x2, .float 0] [.ref 58, .ref 58] mu n :=
  J_callVi (As := []) (rest := [.ref 58]) h dX8_prepare_33 hM (jgV w1186 w1188 w41 w84 w1189) rfl (ci := 8) rfl rfl nmX8_wrongWord rfl hh (Nat.le_of_ble_eq_true rfl) rfl kk hn
theorem rX8_prepare_36 {l : Launch} {G : jG} {X : jX} {Q : State → Prop} {n hg nc : Nat} {ret : Option FieldType} {mu : jM} {x1 : Int32} {x2 : Int32} {y0 : Int32} (h : jOk l G X cX8_prepare 4 ret RX8 hg nc)
    (k3 : ¬ y0 = (-1) → J l G X Q 4 63 [.ref 58, .int x1, .int x2, .float 0] [.int 0] (wr mu 58 0 2) n)
    (k4 : y0 = (-1) → J l G X Q 4 41 [.ref 58, .int x1, .int x2, .float 0] [.ref 58, .ref 58] mu n) :
    J l G X Q 4 36 [.ref 58, .int x1, .int x2, .float 0] [.int y0, .ref 58] mu n := by
  refine J_iconst h dX8_prepare_36 ci_m1 ?_
  refine J_icmp_ne (tgt := 47) h dX8_prepare_37 (by decide) (fun q1 => ?_) (fun q1 => ?_)
  · skip
    refine J_iconst h dX8_prepare_47 ci_2 ?_
    refine J_goto (tgt := 52) h dX8_prepare_48 (by decide) ?_
    refine J_puti (k := 0) (ty0 := tyX8) h dX8_prepare_52 jc8 tyX8_ok nmX8 rfl rfl (by decide) rfl rfl rfl w984 ?_
    refine J_aload_n h dX8_prepare_55 rfl rfl ?_
    refine J_geti (k := 0) h dX8_prepare_56 jc8 rfl rfl (by decide) w984 ?_
    refine J_if_le (tgt := 64) h dX8_prepare_59 (by decide) (fun q2 => ?_) (fun q2 => ?_)
    · skip
      exact absurd (show (2 : Int32) ≤ (0 : Int32) from q2) (by decide)
    · skip
      refine J_iconst h dX8_prepare_62 ci_0 ?_
      exact k3 q1
  · skip
    refine J_aload_n h dX8_prepare_40 rfl rfl ?_
    exact k4 q1
theorem rX8_prepare_41 {l : Launch} {G : jG} {X : jX} {Q : State → Prop} {n hg nc : Nat} {ret : Option FieldType} {mu : jM} {x1 : Int32} {x2 : Int32} {Qc : Int32 → jM → Prop} {h' : Nat} (h : jOk l G X cX8_prepare 4 ret RX8 hg nc) (hM : jCi l G yX8_makeTree cX8_makeTree 6 h' (some .boolean) (.ref 58 :: []) mu Qc) (hh : h' < hg ∧ 6 ≤ 21) (hn : n ≤ nc)
    (kk : ∀ v mu', Qc v mu' → J l G X Q 4 44 [.ref 58, .int x1, .int x2, .float 0] (.int v :: [.ref 58]) mu' n) :
    J l G X Q 4 41 [.ref 58, .int x1, .int x2, .float 0] [.ref 58, .ref 58] mu n :=
  J_callVi (As := []) (rest := [.ref 58]) h dX8_prepare_41 hM (jgV w1257 w1259 w51 w84 w1260) rfl (ci := 8) rfl rfl nmX8_makeTree rfl hh (Nat.le_of_ble_eq_true rfl) rfl kk hn
theorem rX8_prepare_44 {l : Launch} {G : jG} {X : jX} {Q : State → Prop} {n hg nc : Nat} {ret : Option FieldType} {mu : jM} {x1 : Int32} {x2 : Int32} {y0 : Int32} (h : jOk l G X cX8_prepare 4 ret RX8 hg nc)
    (k3 : ¬ y0 = 0 → J l G X Q 4 66 [.ref 58, .int x1, .int x2, .float 0] [.int x2, .ref 58] (wr mu 58 0 0) n)
    (k5 : y0 = 0 → J l G X Q 4 63 [.ref 58, .int x1, .int x2, .float 0] [.int 0] (wr mu 58 0 2) n) :
    J l G X Q 4 44 [.ref 58, .int x1, .int x2, .float 0] [.int y0, .ref 58] mu n := by
  refine J_if_ne (tgt := 51) h dX8_prepare_44 (by decide) (fun q1 => ?_) (fun q1 => ?_)
  · skip
    refine J_iconst h dX8_prepare_51 ci_0 ?_
    refine J_puti (k := 0) (ty0 := tyX8) h dX8_prepare_52 jc8 tyX8_ok nmX8 rfl rfl (by decide) rfl rfl rfl w984 ?_
    refine J_aload_n h dX8_prepare_55 rfl rfl ?_
    refine J_geti (k := 0) h dX8_prepare_56 jc8 rfl rfl (by decide) w984 ?_
    refine J_if_le (tgt := 64) h dX8_prepare_59 (by decide) (fun q2 => ?_) (fun q2 => ?_)
    · skip
      refine J_aload_n h dX8_prepare_64 rfl rfl ?_
      refine J_iload_n h dX8_prepare_65 rfl rfl ?_
      exact k3 q1
    · skip
      exact absurd (show ¬ (0 : Int32) ≤ (0 : Int32) from q2) (by decide)
  · skip
    refine J_iconst h dX8_prepare_47 ci_2 ?_
    refine J_goto (tgt := 52) h dX8_prepare_48 (by decide) ?_
    refine J_puti (k := 0) (ty0 := tyX8) h dX8_prepare_52 jc8 tyX8_ok nmX8 rfl rfl (by decide) rfl rfl rfl w984 ?_
    refine J_aload_n h dX8_prepare_55 rfl rfl ?_
    refine J_geti (k := 0) h dX8_prepare_56 jc8 rfl rfl (by decide) w984 ?_
    refine J_if_le (tgt := 64) h dX8_prepare_59 (by decide) (fun q4 => ?_) (fun q4 => ?_)
    · skip
      exact absurd (show (2 : Int32) ≤ (0 : Int32) from q4) (by decide)
    · skip
      refine J_iconst h dX8_prepare_62 ci_0 ?_
      exact k5 q1
theorem rX8_prepare_66 {l : Launch} {G : jG} {X : jX} {Q : State → Prop} {n hg nc : Nat} {ret : Option FieldType} {mu : jM} {x1 : Int32} {x2 : Int32} {y0 : Int32} {Qc : jM → Prop} {h' : Nat} (h : jOk l G X cX8_prepare 4 ret RX8 hg nc) (hM : jCv l G yX8_makeClusters cX8_makeClusters 3 h' (.ref 58 :: [.int y0]) mu Qc) (hh : h' < hg ∧ 3 ≤ 21) (hn : n ≤ nc)
    (kk : ∀ mu', Qc mu' → J l G X Q 4 69 [.ref 58, .int x1, .int x2, .float 0] [] mu' n) :
    J l G X Q 4 66 [.ref 58, .int x1, .int x2, .float 0] [.int y0, .ref 58] mu n :=
  J_callV (As := [.int y0]) (rest := []) h dX8_prepare_66 hM (jgV w1261 w1263 w52 w84 w1264) rfl (ci := 8) rfl rfl nmX8_makeClusters rfl hh (Nat.le_of_ble_eq_true rfl) rfl kk hn
theorem rX8_prepare_69 {l : Launch} {G : jG} {X : jX} {Q : State → Prop} {n hg nc : Nat} {ret : Option FieldType} {mu : jM} {x1 : Int32} {x2 : Int32} (h : jOk l G X cX8_prepare 4 ret RX8 hg nc)
    (k1 : J l G X Q 4 110 [.ref 58, .int x1, .int x2, .int 0] [] (wr (wr (wr (wr (wr (wr (wr mu 58 18 1) 58 19 0) 58 20 0) 73 (0 : Int32).toNatClampNeg 0) 74 (0 : Int32).toNatClampNeg x1) 58 38 0) 58 41 0) n) :
    J l G X Q 4 69 [.ref 58, .int x1, .int x2, .float 0] [] mu n := by
  refine J_aload_n h dX8_prepare_69 rfl rfl ?_
  refine J_iconst h dX8_prepare_70 ci_1 ?_
  refine J_puti (k := 18) (ty0 := tyX8) h dX8_prepare_71 jc8 tyX8_ok nmX8 rfl rfl (by decide) rfl (by decide) (jfitZ _ (by decide)) w1002 ?_
  refine J_aload_n h dX8_prepare_74 rfl rfl ?_
  refine J_iconst h dX8_prepare_75 ci_0 ?_
  refine J_puti (k := 19) (ty0 := tyX8) h dX8_prepare_76 jc8 tyX8_ok nmX8 rfl rfl (by decide) rfl rfl rfl w1003 ?_
  refine J_aload_n h dX8_prepare_79 rfl rfl ?_
  refine J_iconst h dX8_prepare_80 ci_0 ?_
  refine J_puti (k := 20) (ty0 := tyX8) h dX8_prepare_81 jc8 tyX8_ok nmX8 rfl rfl (by decide) rfl rfl rfl w1004 ?_
  refine J_aload_n h dX8_prepare_84 rfl rfl ?_
  refine J_getr (k := 21) h dX8_prepare_85 jc8 rfl rfl (by decide) w1005 ?_
  refine J_iconst h dX8_prepare_88 ci_0 ?_
  refine J_iconst h dX8_prepare_89 ci_0 ?_
  refine J_iast h dX8_prepare_90 rfl (jin (by decide)) ?_
  refine J_aload_n h dX8_prepare_91 rfl rfl ?_
  refine J_getr (k := 22) h dX8_prepare_92 jc8 rfl rfl (by decide) w1006 ?_
  refine J_iconst h dX8_prepare_95 ci_0 ?_
  refine J_iload_n h dX8_prepare_96 rfl rfl ?_
  refine J_iast h dX8_prepare_97 rfl (jin (by decide)) ?_
  refine J_aload_n h dX8_prepare_98 rfl rfl ?_
  refine J_iconst h dX8_prepare_99 ci_0 ?_
  refine J_puti (k := 38) (ty0 := tyX8) h dX8_prepare_100 jc8 tyX8_ok nmX8 rfl rfl (by decide) rfl rfl rfl w1022 ?_
  refine J_aload_n h dX8_prepare_103 rfl rfl ?_
  refine J_iconst h dX8_prepare_104 ci_0 ?_
  refine J_puti (k := 41) (ty0 := tyX8) h dX8_prepare_105 jc8 tyX8_ok nmX8 rfl rfl (by decide) rfl rfl rfl w1025 ?_
  refine J_iconst h dX8_prepare_108 ci_0 ?_
  refine J_istore_n h dX8_prepare_109 rfl (by decide) rfl ?_
  show J l G X Q 4 110 [.ref 58, .int x1, .int x2, .int 0] [] (wr (wr (wr (wr (wr (wr (wr mu 58 18 1) 58 19 0) 58 20 0) 73 (0 : Int32).toNatClampNeg 0) 74 (0 : Int32).toNatClampNeg x1) 58 38 0) 58 41 0) n
  exact k1
theorem rX8_prepare_110 {l : Launch} {G : jG} {X : jX} {Q : State → Prop} {n hg nc : Nat} {ret : Option FieldType} {mu : jM} {x1 : Int32} {x2 : Int32} {x3 : Int32} (h : jOk l G X cX8_prepare 4 ret RX8 hg nc) (s3 : ¬ 3 ≤ x3 → vp_in x3 3)
    (k2 : 3 ≤ x3 → J l G X Q 4 130 [.ref 58, .int x1, .int x2, .int 0] [] mu n)
    (k4 : ¬ 3 ≤ x3 → J l G X Q 4 110 [.ref 58, .int x1, .int x2, .int (x3 + 1)] [] (wr mu 90 (x3).toNatClampNeg 0) n) :
    J l G X Q 4 110 [.ref 58, .int x1, .int x2, .int x3] [] mu n := by
  refine J_iload_n h dX8_prepare_110 rfl rfl ?_
  refine J_iconst h dX8_prepare_111 ci_3 ?_
  refine J_icmp_ge (tgt := 128) h dX8_prepare_112 (by decide) (fun q1 => ?_) (fun q1 => ?_)
  · skip
    refine J_iconst h dX8_prepare_128 ci_0 ?_
    refine J_istore_n h dX8_prepare_129 rfl (by decide) rfl ?_
    show J l G X Q 4 130 [.ref 58, .int x1, .int x2, .int 0] [] mu n
    exact k2 q1
  · skip
    refine J_aload_n h dX8_prepare_115 rfl rfl ?_
    refine J_getr (k := 40) h dX8_prepare_116 jc8 rfl rfl (by decide) w1024 ?_
    refine J_iload_n h dX8_prepare_119 rfl rfl ?_
    refine J_iconst h dX8_prepare_120 ci_0 ?_
    refine J_iast h dX8_prepare_121 rfl (s3 q1) ?_
    refine J_iinc h dX8_prepare_122 rfl (cc_1 _) (by decide) rfl ?_
    show J l G X Q 4 125 [.ref 58, .int x1, .int x2, .int (x3 + 1)] [] (wr mu 90 (x3).toNatClampNeg 0) n
    refine J_goto (tgt := 110) h dX8_prepare_125 (by decide) ?_
    exact k4 q1
theorem rX8_prepare_130 {l : Launch} {G : jG} {X : jX} {Q : State → Prop} {n hg nc : Nat} {ret : Option FieldType} {mu : jM} {x1 : Int32} {x2 : Int32} {x3 : Int32} (h : jOk l G X cX8_prepare 4 ret RX8 hg nc) (s3 : ¬ 192 ≤ x3 → vp_in x3 192) (s4 : ¬ 192 ≤ x3 → vp_in x3 192)
    (k2 : 192 ≤ x3 → J l G X Q 4 157 [.ref 58, .int x1, .int x2, .int 0] [] mu n)
    (k5 : ¬ 192 ≤ x3 → J l G X Q 4 130 [.ref 58, .int x1, .int x2, .int (x3 + 1)] [] (wr mu 76 (x3).toNatClampNeg (mu 63 (x3).toNatClampNeg)) n) :
    J l G X Q 4 130 [.ref 58, .int x1, .int x2, .int x3] [] mu n := by
  refine J_iload_n h dX8_prepare_130 rfl rfl ?_
  refine J_sipush h dX8_prepare_131 cs_192 ?_
  refine J_icmp_ge (tgt := 155) h dX8_prepare_134 (by decide) (fun q1 => ?_) (fun q1 => ?_)
  · skip
    refine J_iconst h dX8_prepare_155 ci_0 ?_
    refine J_istore_n h dX8_prepare_156 rfl (by decide) rfl ?_
    show J l G X Q 4 157 [.ref 58, .int x1, .int x2, .int 0] [] mu n
    exact k2 q1
  · skip
    refine J_aload_n h dX8_prepare_137 rfl rfl ?_
    refine J_getr (k := 24) h dX8_prepare_138 jc8 rfl rfl (by decide) w1008 ?_
    refine J_iload_n h dX8_prepare_141 rfl rfl ?_
    refine J_aload_n h dX8_prepare_142 rfl rfl ?_
    refine J_getr (k := 7) h dX8_prepare_143 jc8 rfl rfl (by decide) w991 ?_
    refine J_iload_n h dX8_prepare_146 rfl rfl ?_
    refine J_iald h dX8_prepare_147 rfl (s3 q1) ?_
    refine J_iast h dX8_prepare_148 rfl (s4 q1) ?_
    refine J_iinc h dX8_prepare_149 rfl (cc_1 _) (by decide) rfl ?_
    show J l G X Q 4 152 [.ref 58, .int x1, .int x2, .int (x3 + 1)] [] (wr mu 76 (x3).toNatClampNeg (mu 63 (x3).toNatClampNeg)) n
    refine J_goto (tgt := 130) h dX8_prepare_152 (by decide) ?_
    exact k5 q1
theorem rX8_prepare_157 {l : Launch} {G : jG} {X : jX} {Q : State → Prop} {n hg nc : Nat} {ret : Option FieldType} {mu : jM} {x1 : Int32} {x2 : Int32} {x3 : Int32} (h : jOk l G X cX8_prepare 4 ret RX8 hg nc) (s3 : ¬ 384 ≤ x3 → vp_in x3 384)
    (k2 : 384 ≤ x3 → J l G X Q 4 179 [.ref 58, .int x1, .int x2, .int 0] [] mu n)
    (k4 : ¬ 384 ≤ x3 → J l G X Q 4 157 [.ref 58, .int x1, .int x2, .int (x3 + 1)] [] (wr mu 81 (x3).toNatClampNeg 0) n) :
    J l G X Q 4 157 [.ref 58, .int x1, .int x2, .int x3] [] mu n := by
  refine J_iload_n h dX8_prepare_157 rfl rfl ?_
  refine J_sipush h dX8_prepare_158 cs_384 ?_
  refine J_icmp_ge (tgt := 177) h dX8_prepare_161 (by decide) (fun q1 => ?_) (fun q1 => ?_)
  · skip
    refine J_iconst h dX8_prepare_177 ci_0 ?_
    refine J_istore_n h dX8_prepare_178 rfl (by decide) rfl ?_
    show J l G X Q 4 179 [.ref 58, .int x1, .int x2, .int 0] [] mu n
    exact k2 q1
  · skip
    refine J_aload_n h dX8_prepare_164 rfl rfl ?_
    refine J_getr (k := 29) h dX8_prepare_165 jc8 rfl rfl (by decide) w1013 ?_
    refine J_iload_n h dX8_prepare_168 rfl rfl ?_
    refine J_iconst h dX8_prepare_169 ci_0 ?_
    refine J_iast h dX8_prepare_170 rfl (s3 q1) ?_
    refine J_iinc h dX8_prepare_171 rfl (cc_1 _) (by decide) rfl ?_
    show J l G X Q 4 174 [.ref 58, .int x1, .int x2, .int (x3 + 1)] [] (wr mu 81 (x3).toNatClampNeg 0) n
    refine J_goto (tgt := 157) h dX8_prepare_174 (by decide) ?_
    exact k4 q1
theorem rX8_prepare_179 {l : Launch} {G : jG} {X : jX} {Q : State → Prop} {n hg nc : Nat} {ret : Option FieldType} {mu : jM} {x1 : Int32} {x2 : Int32} {x3 : Int32} (h : jOk l G X cX8_prepare 4 ret RX8 hg nc) (s3 : ¬ 240 ≤ x3 → vp_in x3 240)
    (k2 : 240 ≤ x3 → J l G X Q 4 201 [.ref 58, .int x1, .int x2, .int 0] [] mu n)
    (k4 : ¬ 240 ≤ x3 → J l G X Q 4 179 [.ref 58, .int x1, .int x2, .int (x3 + 1)] [] (wr mu 71 (x3).toNatClampNeg (vp_nar .boolean 0)) n) :
    J l G X Q 4 179 [.ref 58, .int x1, .int x2, .int x3] [] mu n := by
  refine J_iload_n h dX8_prepare_179 rfl rfl ?_
  refine J_sipush h dX8_prepare_180 cs_240 ?_
  refine J_icmp_ge (tgt := 199) h dX8_prepare_183 (by decide) (fun q1 => ?_) (fun q1 => ?_)
  · skip
    refine J_iconst h dX8_prepare_199 ci_0 ?_
    refine J_istore_n h dX8_prepare_200 rfl (by decide) rfl ?_
    show J l G X Q 4 201 [.ref 58, .int x1, .int x2, .int 0] [] mu n
    exact k2 q1
  · skip
    refine J_aload_n h dX8_prepare_186 rfl rfl ?_
    refine J_getr (k := 16) h dX8_prepare_187 jc8 rfl rfl (by decide) w1000 ?_
    refine J_iload_n h dX8_prepare_190 rfl rfl ?_
    refine J_iconst h dX8_prepare_191 ci_0 ?_
    refine J_zast h dX8_prepare_192 rfl (s3 q1) ?_
    refine J_iinc h dX8_prepare_193 rfl (cc_1 _) (by decide) rfl ?_
    show J l G X Q 4 196 [.ref 58, .int x1, .int x2, .int (x3 + 1)] [] (wr mu 71 (x3).toNatClampNeg (vp_nar .boolean 0)) n
    refine J_goto (tgt := 179) h dX8_prepare_196 (by decide) ?_
    exact k4 q1
theorem rX8_prepare_201 {l : Launch} {G : jG} {X : jX} {Q : State → Prop} {n hg nc : Nat} {ret : Option FieldType} {mu : jM} {x1 : Int32} {x2 : Int32} {x3 : Int32} (h : jOk l G X cX8_prepare 4 ret RX8 hg nc) (s3 : ¬ 24 ≤ x3 → vp_in x3 24)
    (k2 : 24 ≤ x3 → J l G X Q 4 229 [.ref 58, .int x1, .int x2, .int x3] [.int (mu 58 32)] mu n)
    (k4 : ¬ 24 ≤ x3 → J l G X Q 4 216 [.ref 58, .int x1, .int x2, .int x3] [.int x3, .ref 58] (wr mu 75 (x3).toNatClampNeg 0) n) :
    J l G X Q 4 201 [.ref 58, .int x1, .int x2, .int x3] [] mu n := by
  refine J_iload_n h dX8_prepare_201 rfl rfl ?_
  refine J_bipush h dX8_prepare_202 cb_24 ?_
  refine J_icmp_ge (tgt := 225) h dX8_prepare_204 (by decide) (fun q1 => ?_) (fun q1 => ?_)
  · skip
    refine J_aload_n h dX8_prepare_225 rfl rfl ?_
    refine J_geti (k := 32) h dX8_prepare_226 jc8 rfl rfl (by decide) w1016 ?_
    exact k2 q1
  · skip
    refine J_aload_n h dX8_prepare_207 rfl rfl ?_
    refine J_getr (k := 23) h dX8_prepare_208 jc8 rfl rfl (by decide) w1007 ?_
    refine J_iload_n h dX8_prepare_211 rfl rfl ?_
    refine J_iconst h dX8_prepare_212 ci_0 ?_
    refine J_iast h dX8_prepare_213 rfl (s3 q1) ?_
    refine J_aload_n h dX8_prepare_214 rfl rfl ?_
    refine J_iload_n h dX8_prepare_215 rfl rfl ?_
    exact k4 q1
theorem rX8_prepare_216 {l : Launch} {G : jG} {X : jX} {Q : State → Prop} {n hg nc : Nat} {ret : Option FieldType} {mu : jM} {x1 : Int32} {x2 : Int32} {x3 : Int32} {y0 : Int32} {Qc : jM → Prop} {h' : Nat} (h : jOk l G X cX8_prepare 4 ret RX8 hg nc) (hM : jCv l G yX8_clearNode cX8_clearNode 2 h' (.ref 58 :: [.int y0]) mu Qc) (hh : h' < hg ∧ 2 ≤ 21) (hn : n ≤ nc)
    (kk : ∀ mu', Qc mu' → J l G X Q 4 219 [.ref 58, .int x1, .int x2, .int x3] [] mu' n) :
    J l G X Q 4 216 [.ref 58, .int x1, .int x2, .int x3] [.int y0, .ref 58] mu n :=
  J_callV (As := [.int y0]) (rest := []) h dX8_prepare_216 hM (jgV w1281 w1283 w57 w84 w1284) rfl (ci := 8) rfl rfl nmX8_clearNode rfl hh (Nat.le_of_ble_eq_true rfl) rfl kk hn
theorem rX8_prepare_219 {l : Launch} {G : jG} {X : jX} {Q : State → Prop} {n hg nc : Nat} {ret : Option FieldType} {mu : jM} {x1 : Int32} {x2 : Int32} {x3 : Int32} (h : jOk l G X cX8_prepare 4 ret RX8 hg nc)
    (k1 : J l G X Q 4 201 [.ref 58, .int x1, .int x2, .int (x3 + 1)] [] mu n) :
    J l G X Q 4 219 [.ref 58, .int x1, .int x2, .int x3] [] mu n := by
  refine J_iinc h dX8_prepare_219 rfl (cc_1 _) (by decide) rfl ?_
  show J l G X Q 4 222 [.ref 58, .int x1, .int x2, .int (x3 + 1)] [] mu n
  refine J_goto (tgt := 201) h dX8_prepare_222 (by decide) ?_
  exact k1
/-! LockstepNetModel.clearNode(I)V -/
theorem rX8_clearNode_0 {l : Launch} {G : jG} {X : jX} {Q : State → Prop} {n hg nc : Nat} {ret : Option FieldType} {mu : jM} {x1 : Int32} (h : jOk l G X cX8_clearNode 2 ret RX8 hg nc) (s1 : vp_in x1 24) (s2 : vp_in x1 24) (s3 : vp_in x1 24) (s4 : vp_in x1 24)
    (k5 : J l G X Q 2 28 [.ref 58, .int x1] [] (wr (wr (wr (wr mu 77 (x1).toNatClampNeg 0) 78 (x1).toNatClampNeg (vp_nar .boolean 0)) 79 (x1).toNatClampNeg (vp_nar .boolean 0)) 80 (x1).toNatClampNeg (vp_nar .boolean 0)) n) :
    J l G X Q 2 0 [.ref 58, .int x1] [] mu n := by
  refine J_aload_n h dX8_clearNode_0 rfl rfl ?_
  refine J_getr (k := 25) h dX8_clearNode_1 jc8 rfl rfl (by decide) w1009 ?_
  refine J_iload_n h dX8_clearNode_4 rfl rfl ?_
  refine J_iconst h dX8_clearNode_5 ci_0 ?_
  refine J_iast h dX8_clearNode_6 rfl (s1) ?_
  refine J_aload_n h dX8_clearNode_7 rfl rfl ?_
  refine J_getr (k := 26) h dX8_clearNode_8 jc8 rfl rfl (by decide) w1010 ?_
  refine J_iload_n h dX8_clearNode_11 rfl rfl ?_
  refine J_iconst h dX8_clearNode_12 ci_0 ?_
  refine J_zast h dX8_clearNode_13 rfl (s2) ?_
  refine J_aload_n h dX8_clearNode_14 rfl rfl ?_
  refine J_getr (k := 27) h dX8_clearNode_15 jc8 rfl rfl (by decide) w1011 ?_
  refine J_iload_n h dX8_clearNode_18 rfl rfl ?_
  refine J_iconst h dX8_clearNode_19 ci_0 ?_
  refine J_zast h dX8_clearNode_20 rfl (s3) ?_
  refine J_aload_n h dX8_clearNode_21 rfl rfl ?_
  refine J_getr (k := 28) h dX8_clearNode_22 jc8 rfl rfl (by decide) w1012 ?_
  refine J_iload_n h dX8_clearNode_25 rfl rfl ?_
  refine J_iconst h dX8_clearNode_26 ci_0 ?_
  refine J_zast h dX8_clearNode_27 rfl (s4) ?_
  exact k5
/-! LockstepNetModel.send(IIIII)V -/
theorem rX8_send_0 {l : Launch} {G : jG} {X : jX} {Q : State → Prop} {n hg nc : Nat} {ret : Option FieldType} {mu : jM} {x1 : Int32} {x2 : Int32} {x3 : Int32} {x4 : Int32} {x5 : Int32} (h : jOk l G X cX8_send 7 ret RX8 hg nc) (s1 : vp_in (5 * (mu 58 38)) 20480) (s2 : vp_in ((5 * (mu 58 38)) + 1) 20480) (s3 : vp_in ((5 * (mu 58 38)) + 2) 20480) (s4 : vp_in ((5 * (mu 58 38)) + 3) 20480) (s5 : vp_in ((5 * (mu 58 38)) + 4) 20480) (s9 : ¬ 2 ≤ x1 → vp_in x1 3) (s10 : ¬ 2 ≤ x1 → vp_in x1 3)
    (k8 : 2 ≤ x1 → J l G X Q 7 108 [.ref 58, .int x1, .int x2, .int x3, .int x4, .int x5, .int 2] [] (wr (wr (wr (wr (wr (wr (wr mu 89 ((5 * (mu 58 38))).toNatClampNeg x1) 89 (((5 * (mu 58 38)) + 1)).toNatClampNeg x2) 89 (((5 * (mu 58 38)) + 2)).toNatClampNeg x3) 89 (((5 * (mu 58 38)) + 3)).toNatClampNeg x4) 89 (((5 * (mu 58 38)) + 4)).toNatClampNeg x5) 58 38 ((mu 58 38) + 1)) 90 (2 : Int32).toNatClampNeg ((mu 90 (2 : Int32).toNatClampNeg) + 1)) n)
    (k11 : ¬ 2 ≤ x1 → J l G X Q 7 108 [.ref 58, .int x1, .int x2, .int x3, .int x4, .int x5, .int x1] [] (wr (wr (wr (wr (wr (wr (wr mu 89 ((5 * (mu 58 38))).toNatClampNeg x1) 89 (((5 * (mu 58 38)) + 1)).toNatClampNeg x2) 89 (((5 * (mu 58 38)) + 2)).toNatClampNeg x3) 89 (((5 * (mu 58 38)) + 3)).toNatClampNeg x4) 89 (((5 * (mu 58 38)) + 4)).toNatClampNeg x5) 58 38 ((mu 58 38) + 1)) 90 (x1).toNatClampNeg ((mu 90 (x1).toNatClampNeg) + 1)) n) :
    J l G X Q 7 0 [.ref 58, .int x1, .int x2, .int x3, .int x4, .int x5, .float 0] [] mu n := by
  refine J_aload_n h dX8_send_0 rfl rfl ?_
  refine J_getr (k := 39) h dX8_send_1 jc8 rfl rfl (by decide) w1023 ?_
  refine J_iconst h dX8_send_4 ci_5 ?_
  refine J_aload_n h dX8_send_5 rfl rfl ?_
  refine J_geti (k := 38) h dX8_send_6 jc8 rfl rfl (by decide) w1022 ?_
  refine J_imul h dX8_send_9 ?_
  refine J_iload_n h dX8_send_10 rfl rfl ?_
  refine J_iast h dX8_send_11 rfl (s1) ?_
  refine J_aload_n h dX8_send_12 rfl rfl ?_
  refine J_getr (k := 39) h dX8_send_13 jc8 rfl rfl (by decide) w1023 ?_
  refine J_iconst h dX8_send_16 ci_5 ?_
  refine J_aload_n h dX8_send_17 rfl rfl ?_
  refine J_geti (k := 38) h dX8_send_18 jc8 rfl rfl (by decide) w1022 ?_
  refine J_imul h dX8_send_21 ?_
  refine J_iconst h dX8_send_22 ci_1 ?_
  refine J_iadd h dX8_send_23 ?_
  refine J_iload_n h dX8_send_24 rfl rfl ?_
  refine J_iast h dX8_send_25 rfl (s2) ?_
  refine J_aload_n h dX8_send_26 rfl rfl ?_
  refine J_getr (k := 39) h dX8_send_27 jc8 rfl rfl (by decide) w1023 ?_
  refine J_iconst h dX8_send_30 ci_5 ?_
  refine J_aload_n h dX8_send_31 rfl rfl ?_
  refine J_geti (k := 38) h dX8_send_32 jc8 rfl rfl (by decide) w1022 ?_
  refine J_imul h dX8_send_35 ?_
  refine J_iconst h dX8_send_36 ci_2 ?_
  refine J_iadd h dX8_send_37 ?_
  refine J_iload_n h dX8_send_38 rfl rfl ?_
  refine J_iast h dX8_send_39 rfl (s3) ?_
  refine J_aload_n h dX8_send_40 rfl rfl ?_
  refine J_getr (k := 39) h dX8_send_41 jc8 rfl rfl (by decide) w1023 ?_
  refine J_iconst h dX8_send_44 ci_5 ?_
  refine J_aload_n h dX8_send_45 rfl rfl ?_
  refine J_geti (k := 38) h dX8_send_46 jc8 rfl rfl (by decide) w1022 ?_
  refine J_imul h dX8_send_49 ?_
  refine J_iconst h dX8_send_50 ci_3 ?_
  refine J_iadd h dX8_send_51 ?_
  refine J_iload h dX8_send_52 rfl ?_
  refine J_iast h dX8_send_54 rfl (s4) ?_
  refine J_aload_n h dX8_send_55 rfl rfl ?_
  refine J_getr (k := 39) h dX8_send_56 jc8 rfl rfl (by decide) w1023 ?_
  refine J_iconst h dX8_send_59 ci_5 ?_
  refine J_aload_n h dX8_send_60 rfl rfl ?_
  refine J_geti (k := 38) h dX8_send_61 jc8 rfl rfl (by decide) w1022 ?_
  refine J_imul h dX8_send_64 ?_
  refine J_iconst h dX8_send_65 ci_4 ?_
  refine J_iadd h dX8_send_66 ?_
  refine J_iload h dX8_send_67 rfl ?_
  refine J_iast h dX8_send_69 rfl (s5) ?_
  refine J_aload_n h dX8_send_70 rfl rfl ?_
  refine J_dup h dX8_send_71 rfl ?_
  refine J_geti (k := 38) h dX8_send_72 jc8 rfl rfl (by decide) w1022 ?_
  refine J_iconst h dX8_send_75 ci_1 ?_
  refine J_iadd h dX8_send_76 ?_
  refine J_puti (k := 38) (ty0 := tyX8) h dX8_send_77 jc8 tyX8_ok nmX8 rfl rfl (by decide) rfl rfl rfl w1022 ?_
  refine J_iload_n h dX8_send_80 rfl rfl ?_
  refine J_iconst h dX8_send_81 ci_2 ?_
  refine J_icmp_ge (tgt := 89) h dX8_send_82 (by decide) (fun q6 => ?_) (fun q6 => ?_)
  · skip
    refine J_iconst h dX8_send_89 ci_2 ?_
    refine J_istore h dX8_send_90 (by decide) rfl ?_
    show J l G X Q 7 92 [.ref 58, .int x1, .int x2, .int x3, .int x4, .int x5, .int 2] [] (wr (wr (wr (wr (wr (wr mu 89 ((5 * (mu 58 38))).toNatClampNeg x1) 89 (((5 * (mu 58 38)) + 1)).toNatClampNeg x2) 89 (((5 * (mu 58 38)) + 2)).toNatClampNeg x3) 89 (((5 * (mu 58 38)) + 3)).toNatClampNeg x4) 89 (((5 * (mu 58 38)) + 4)).toNatClampNeg x5) 58 38 ((mu 58 38) + 1)) n
    refine J_aload_n h dX8_send_92 rfl rfl ?_
    refine J_getr (k := 40) h dX8_send_93 jc8 rfl rfl (by decide) w1024 ?_
    refine J_iload h dX8_send_96 rfl ?_
    refine J_aload_n h dX8_send_98 rfl rfl ?_
    refine J_getr (k := 40) h dX8_send_99 jc8 rfl rfl (by decide) w1024 ?_
    refine J_iload h dX8_send_102 rfl ?_
    refine J_iald h dX8_send_104 rfl (jin (by decide)) ?_
    refine J_iconst h dX8_send_105 ci_1 ?_
    refine J_iadd h dX8_send_106 ?_
    refine J_iast h dX8_send_107 rfl (jin (by decide)) ?_
    exact k8 q6
  · skip
    refine J_iload_n h dX8_send_85 rfl rfl ?_
    refine J_goto (tgt := 90) h dX8_send_86 (by decide) ?_
    refine J_istore h dX8_send_90 (by decide) rfl ?_
    show J l G X Q 7 92 [.ref 58, .int x1, .int x2, .int x3, .int x4, .int x5, .int x1] [] (wr (wr (wr (wr (wr (wr mu 89 ((5 * (mu 58 38))).toNatClampNeg x1) 89 (((5 * (mu 58 38)) + 1)).toNatClampNeg x2) 89 (((5 * (mu 58 38)) + 2)).toNatClampNeg x3) 89 (((5 * (mu 58 38)) + 3)).toNatClampNeg x4) 89 (((5 * (mu 58 38)) + 4)).toNatClampNeg x5) 58 38 ((mu 58 38) + 1)) n
    refine J_aload_n h dX8_send_92 rfl rfl ?_
    refine J_getr (k := 40) h dX8_send_93 jc8 rfl rfl (by decide) w1024 ?_
    refine J_iload h dX8_send_96 rfl ?_
    refine J_aload_n h dX8_send_98 rfl rfl ?_
    refine J_getr (k := 40) h dX8_send_99 jc8 rfl rfl (by decide) w1024 ?_
    refine J_iload h dX8_send_102 rfl ?_
    refine J_iald h dX8_send_104 rfl (s9 q6) ?_
    refine J_iconst h dX8_send_105 ci_1 ?_
    refine J_iadd h dX8_send_106 ?_
    refine J_iast h dX8_send_107 rfl (s10 q6) ?_
    exact k11 q6
/-! LockstepNetModel.spot(III)I -/
theorem rX8_spot_0 {l : Launch} {G : jG} {X : jX} {Q : State → Prop} {n hg nc : Nat} {ret : Option FieldType} {mu : jM} {x0 : Int32} {x1 : Int32} {x2 : Int32} (h : jOk l G X cX8_spot 3 ret RX8 hg nc)
    (k1 : J l G X Q 3 13 [.int x0, .int x1, .int x2] [.int (((16 * x0) + (8 * (x2 - (x2 / 2) * 2))) + x1)] mu n) :
    J l G X Q 3 0 [.int x0, .int x1, .int x2] [] mu n := by
  refine J_bipush h dX8_spot_0 cb_16 ?_
  refine J_iload_n h dX8_spot_2 rfl rfl ?_
  refine J_imul h dX8_spot_3 ?_
  refine J_bipush h dX8_spot_4 cb_8 ?_
  refine J_iload_n h dX8_spot_6 rfl rfl ?_
  refine J_iconst h dX8_spot_7 ci_2 ?_
  refine J_irem h dX8_spot_8 (by decide) ?_
  refine J_imul h dX8_spot_9 ?_
  refine J_iadd h dX8_spot_10 ?_
  refine J_iload_n h dX8_spot_11 rfl rfl ?_
  refine J_iadd h dX8_spot_12 ?_
  exact k1
/-! LockstepNetModel.cameTo(II)I -/
theorem rX8_cameTo_0 {l : Launch} {G : jG} {X : jX} {Q : State → Prop} {n hg nc : Nat} {ret : Option FieldType} {mu : jM} {x1 : Int32} {x2 : Int32} (h : jOk l G X cX8_cameTo 3 ret RX8 hg nc) (s1 : vp_in x1 24)
    (k2 : J l G X Q 3 12 [.ref 58, .int x1, .int x2] [.int (mu 75 (x1).toNatClampNeg), .int x2, .int x1, .ref 81] mu n) :
    J l G X Q 3 0 [.ref 58, .int x1, .int x2] [] mu n := by
  refine J_aload_n h dX8_cameTo_0 rfl rfl ?_
  refine J_getr (k := 29) h dX8_cameTo_1 jc8 rfl rfl (by decide) w1013 ?_
  refine J_iload_n h dX8_cameTo_4 rfl rfl ?_
  refine J_iload_n h dX8_cameTo_5 rfl rfl ?_
  refine J_aload_n h dX8_cameTo_6 rfl rfl ?_
  refine J_getr (k := 23) h dX8_cameTo_7 jc8 rfl rfl (by decide) w1007 ?_
  refine J_iload_n h dX8_cameTo_10 rfl rfl ?_
  refine J_iald h dX8_cameTo_11 rfl (s1) ?_
  exact k2
theorem rX8_cameTo_12 {l : Launch} {G : jG} {X : jX} {Q : State → Prop} {n hg nc : Nat} {ret : Option FieldType} {mu : jM} {x1 : Int32} {x2 : Int32} {y0 : Int32} {y1 : Int32} {y2 : Int32} {Qc : Int32 → jM → Prop} {h' : Nat} (h : jOk l G X cX8_cameTo 3 ret RX8 hg nc) (hM : jCi l G yX8_spot cX8_spot 3 h' (some .int) [.int y2, .int y1, .int y0] mu Qc) (hh : h' < hg ∧ 3 ≤ 21) (hn : n ≤ nc)
    (kk : ∀ v mu', Qc v mu' → J l G X Q 3 15 [.ref 58, .int x1, .int x2] (.int v :: [.ref 81]) mu' n) :
    J l G X Q 3 12 [.ref 58, .int x1, .int x2] [.int y0, .int y1, .int y2, .ref 81] mu n :=
  J_callSi (As := [.int y2, .int y1, .int y0]) (rest := [.ref 81]) h dX8_cameTo_12 hM (jgS w1321 w1322 w84 w1323) nmX8_spot rfl hh (Nat.le_of_ble_eq_true rfl) rfl kk hn
theorem rX8_cameTo_15 {l : Launch} {G : jG} {X : jX} {Q : State → Prop} {n hg nc : Nat} {ret : Option FieldType} {mu : jM} {x1 : Int32} {x2 : Int32} {y0 : Int32} (h : jOk l G X cX8_cameTo 3 ret RX8 hg nc) (s1 : vp_in y0 384)
    (k2 : J l G X Q 3 16 [.ref 58, .int x1, .int x2] [.int (mu 81 (y0).toNatClampNeg)] mu n) :
    J l G X Q 3 15 [.ref 58, .int x1, .int x2] [.int y0, .ref 81] mu n := by
  refine J_iald h dX8_cameTo_15 rfl (s1) ?_
  exact k2
/-! LockstepNetModel.wayOf(I)I -/
theorem rX8_wayOf_0 {l : Launch} {G : jG} {X : jX} {Q : State → Prop} {n hg nc : Nat} {ret : Option FieldType} {mu : jM} {x1 : Int32} (h : jOk l G X cX8_wayOf 4 ret RX8 hg nc)
    (k2 : J l G X Q 4 9 [.ref 58, .int x1, .int (mu 74 (0 : Int32).toNatClampNeg), .int 1] [] mu n) :
    J l G X Q 4 0 [.ref 58, .int x1, .float 0, .float 0] [] mu n := by
  refine J_aload_n h dX8_wayOf_0 rfl rfl ?_
  refine J_getr (k := 22) h dX8_wayOf_1 jc8 rfl rfl (by decide) w1006 ?_
  refine J_iconst h dX8_wayOf_4 ci_0 ?_
  refine J_iald h dX8_wayOf_5 rfl (jin (by decide)) ?_
  refine J_istore_n h dX8_wayOf_6 rfl (by decide) rfl ?_
  show J l G X Q 4 7 [.ref 58, .int x1, .int (mu 74 (0 : Int32).toNatClampNeg), .float 0] [] mu n
  refine J_iconst h dX8_wayOf_7 ci_1 ?_
  refine J_istore_n h dX8_wayOf_8 rfl (by decide) rfl ?_
  show J l G X Q 4 9 [.ref 58, .int x1, .int (mu 74 (0 : Int32).toNatClampNeg), .int 1] [] mu n
  exact k2
theorem rX8_wayOf_9 {l : Launch} {G : jG} {X : jX} {Q : State → Prop} {n hg nc : Nat} {ret : Option FieldType} {mu : jM} {x1 : Int32} {x2 : Int32} {x3 : Int32} (h : jOk l G X cX8_wayOf 4 ret RX8 hg nc) (s3 : ¬ (mu 58 20) < x3 → vp_in x3 9) (s6 : ¬ (mu 58 20) < x3 → ¬ x1 < (mu 73 (x3).toNatClampNeg) → vp_in x3 9)
    (k2 : (mu 58 20) < x3 → J l G X Q 4 45 [.ref 58, .int x1, .int x2, .int x3] [.int x2] mu n)
    (k5 : ¬ (mu 58 20) < x3 → x1 < (mu 73 (x3).toNatClampNeg) → J l G X Q 4 9 [.ref 58, .int x1, .int x2, .int (x3 + 1)] [] mu n)
    (k7 : ¬ (mu 58 20) < x3 → ¬ x1 < (mu 73 (x3).toNatClampNeg) → J l G X Q 4 9 [.ref 58, .int x1, .int (mu 74 (x3).toNatClampNeg), .int (x3 + 1)] [] mu n) :
    J l G X Q 4 9 [.ref 58, .int x1, .int x2, .int x3] [] mu n := by
  refine J_iload_n h dX8_wayOf_9 rfl rfl ?_
  refine J_aload_n h dX8_wayOf_10 rfl rfl ?_
  refine J_geti (k := 20) h dX8_wayOf_11 jc8 rfl rfl (by decide) w1004 ?_
  refine J_icmp_gt (tgt := 44) h dX8_wayOf_14 (by decide) (fun q1 => ?_) (fun q1 => ?_)
  · skip
    refine J_iload_n h dX8_wayOf_44 rfl rfl ?_
    exact k2 q1
  · skip
    refine J_aload_n h dX8_wayOf_17 rfl rfl ?_
    refine J_getr (k := 21) h dX8_wayOf_18 jc8 rfl rfl (by decide) w1005 ?_
    refine J_iload_n h dX8_wayOf_21 rfl rfl ?_
    refine J_iald h dX8_wayOf_22 rfl (s3 q1) ?_
    refine J_iload_n h dX8_wayOf_23 rfl rfl ?_
    refine J_icmp_gt (tgt := 36) h dX8_wayOf_24 (by decide) (fun q4 => ?_) (fun q4 => ?_)
    · skip
      refine J_iload_n h dX8_wayOf_36 rfl rfl ?_
      refine J_istore_n h dX8_wayOf_37 rfl (by decide) rfl ?_
      show J l G X Q 4 38 [.ref 58, .int x1, .int x2, .int x3] [] mu n
      refine J_iinc h dX8_wayOf_38 rfl (cc_1 _) (by decide) rfl ?_
      show J l G X Q 4 41 [.ref 58, .int x1, .int x2, .int (x3 + 1)] [] mu n
      refine J_goto (tgt := 9) h dX8_wayOf_41 (by decide) ?_
      exact k5 q1 q4
    · skip
      refine J_aload_n h dX8_wayOf_27 rfl rfl ?_
      refine J_getr (k := 22) h dX8_wayOf_28 jc8 rfl rfl (by decide) w1006 ?_
      refine J_iload_n h dX8_wayOf_31 rfl rfl ?_
      refine J_iald h dX8_wayOf_32 rfl (s6 q1 q4) ?_
      refine J_goto (tgt := 37) h dX8_wayOf_33 (by decide) ?_
      refine J_istore_n h dX8_wayOf_37 rfl (by decide) rfl ?_
      show J l G X Q 4 38 [.ref 58, .int x1, .int (mu 74 (x3).toNatClampNeg), .int x3] [] mu n
      refine J_iinc h dX8_wayOf_38 rfl (cc_1 _) (by decide) rfl ?_
      show J l G X Q 4 41 [.ref 58, .int x1, .int (mu 74 (x3).toNatClampNeg), .int (x3 + 1)] [] mu n
      refine J_goto (tgt := 9) h dX8_wayOf_41 (by decide) ?_
      exact k7 q1 q4
