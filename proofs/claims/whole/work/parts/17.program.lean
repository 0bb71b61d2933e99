/-! LockstepNet$Program.put(IIIII)V -/
theorem rX4_put_0 {l : Launch} {G : jG} {X : jX} {Q : State → Prop} {n hg nc : Nat} {ret : Option FieldType} {mu : jM} {x1 : Int32} {x2 : Int32} {x3 : Int32} {x4 : Int32} {x5 : Int32} (h : jOk l G X cX4_put 6 ret RX4 hg nc) (s1 : vp_in x1 64) (s2 : vp_in x1 64) (s3 : vp_in x1 64) (s4 : vp_in x1 64)
    (k6 : ¬ x1 = (mu 1 4) → J l G X Q 6 48 [.ref 1, .int x1, .int x2, .int x3, .int x4, .int x5] [] (wr (wr (wr (wr mu 2 (x1).toNatClampNeg x2) 3 (x1).toNatClampNeg x3) 4 (x1).toNatClampNeg x4) 5 (x1).toNatClampNeg x5) n)
    (k7 : x1 = (mu 1 4) → J l G X Q 6 48 [.ref 1, .int x1, .int x2, .int x3, .int x4, .int x5] [] (wr (wr (wr (wr (wr mu 2 (x1).toNatClampNeg x2) 3 (x1).toNatClampNeg x3) 4 (x1).toNatClampNeg x4) 5 (x1).toNatClampNeg x5) 1 4 ((mu 1 4) + 1)) n) :
    J l G X Q 6 0 [.ref 1, .int x1, .int x2, .int x3, .int x4, .int x5] [] mu n := by
  refine J_aload_n h dX4_put_0 rfl rfl ?_
  refine J_getr (k := 0) h dX4_put_1 jc4 rfl rfl (by decide) w111 ?_
  refine J_iload_n h dX4_put_4 rfl rfl ?_
  refine J_iload_n h dX4_put_5 rfl rfl ?_
  refine J_iast h dX4_put_6 rfl (s1) ?_
  refine J_aload_n h dX4_put_7 rfl rfl ?_
  refine J_getr (k := 1) h dX4_put_8 jc4 rfl rfl (by decide) w113 ?_
  refine J_iload_n h dX4_put_11 rfl rfl ?_
  refine J_iload_n h dX4_put_12 rfl rfl ?_
  refine J_iast h dX4_put_13 rfl (s2) ?_
  refine J_aload_n h dX4_put_14 rfl rfl ?_
  refine J_getr (k := 2) h dX4_put_15 jc4 rfl rfl (by decide) w115 ?_
  refine J_iload_n h dX4_put_18 rfl rfl ?_
  refine J_iload h dX4_put_19 rfl ?_
  refine J_iast h dX4_put_21 rfl (s3) ?_
  refine J_aload_n h dX4_put_22 rfl rfl ?_
  refine J_getr (k := 3) h dX4_put_23 jc4 rfl rfl (by decide) w117 ?_
  refine J_iload_n h dX4_put_26 rfl rfl ?_
  refine J_iload h dX4_put_27 rfl ?_
  refine J_iast h dX4_put_29 rfl (s4) ?_
  refine J_iload_n h dX4_put_30 rfl rfl ?_
  refine J_aload_n h dX4_put_31 rfl rfl ?_
  refine J_geti (k := 4) h dX4_put_32 jc4 rfl rfl (by decide) w119 ?_
  refine J_icmp_ne (tgt := 48) h dX4_put_35 (by decide) (fun q5 => ?_) (fun q5 => ?_)
  · skip
    exact k6 q5
  · skip
    refine J_aload_n h dX4_put_38 rfl rfl ?_
    refine J_dup h dX4_put_39 rfl ?_
    refine J_geti (k := 4) h dX4_put_40 jc4 rfl rfl (by decide) w119 ?_
    refine J_iconst h dX4_put_43 ci_1 ?_
    refine J_iadd h dX4_put_44 ?_
    refine J_puti (k := 4) (ty0 := tyX4) h dX4_put_45 jc4 tyX4_ok nmX4 rfl rfl (by decide) rfl rfl rfl w119 ?_
    exact k7 q5
/-! LockstepNet$Program.load(I)V -/
theorem rX4_load_0 {l : Launch} {G : jG} {X : jX} {Q : State → Prop} {n hg nc : Nat} {ret : Option FieldType} {mu : jM} {x1 : Int32} (h : jOk l G X cX4_load 4 ret RX4 hg nc)
    (k1 : J l G X Q 4 1 [.ref 1, .int x1, .float 0, .float 0] [.int x1] mu n) :
    J l G X Q 4 0 [.ref 1, .int x1, .float 0, .float 0] [] mu n := by
  refine J_iload_n h dX4_load_0 rfl rfl ?_
  exact k1
/-! LockstepNet$Program.builtInWords(I)[I -/
theorem rX4_builtInWords_0 {l : Launch} {G : jG} {X : jX} {Q : State → Prop} {n hg nc : Nat} {ret : Option FieldType} {mu : jM} {x0 : Int32} (h : jOk l G X cX4_builtInWords 1 ret RX4 hg nc)
    (k1 : J l G X Q 1 1 [.int x0] [.int x0] mu n) :
    J l G X Q 1 0 [.int x0] [] mu n := by
  refine J_iload_n h dX4_builtInWords_0 rfl rfl ?_
  exact k1
theorem rX4_builtInWords_1 {l : Launch} {G : jG} {X : jX} {Q : State → Prop} {n hg nc : Nat} {ret : Option FieldType} {mu : jM} {x0 : Int32} {y0 : Int32} (h : jOk l G X cX4_builtInWords 1 ret RX4 hg nc)
    (k0 : y0 = 0 → J l G X Q 1 32 [.int x0] [] mu n)
    (k1 : y0 = 1 → J l G X Q 1 36 [.int x0] [] mu n)
    (k2 : y0 = 2 → J l G X Q 1 40 [.int x0] [] mu n)
    (k3 : y0 = 3 → J l G X Q 1 44 [.int x0] [] mu n)
    (kd : ¬ y0 = 0 → ¬ y0 = 1 → ¬ y0 = 2 → ¬ y0 = 3 → J l G X Q 1 48 [.int x0] [] mu n) :
    J l G X Q 1 1 [.int x0] [.int y0] mu n := by
  by_cases e0 : y0 = 0
  · subst e0
    exact J_tableIn (tgt := 32) (off := 31) h dX4_builtInWords_1 (by decide) (by decide) (by decide) (by decide) (k0 rfl)
  by_cases e1 : y0 = 1
  · subst e1
    exact J_tableIn (tgt := 36) (off := 35) h dX4_builtInWords_1 (by decide) (by decide) (by decide) (by decide) (k1 rfl)
  by_cases e2 : y0 = 2
  · subst e2
    exact J_tableIn (tgt := 40) (off := 39) h dX4_builtInWords_1 (by decide) (by decide) (by decide) (by decide) (k2 rfl)
  by_cases e3 : y0 = 3
  · subst e3
    exact J_tableIn (tgt := 44) (off := 43) h dX4_builtInWords_1 (by decide) (by decide) (by decide) (by decide) (k3 rfl)
  refine J_tableOut (tgt := 48) h dX4_builtInWords_1 ?_ (by decide) (kd e0 e1 e2 e3)
  refine jout 4 (by decide) (fun k hk => ?_)
  match k, hk with
  | 0, _ => exact lv_neT e0 (by decide)
  | 1, _ => exact lv_neT e1 (by decide)
  | 2, _ => exact lv_neT e2 (by decide)
  | 3, _ => exact lv_neT e3 (by decide)
  | k + 4, hk => omega
theorem rX4_builtInWords_32 {l : Launch} {G : jG} {X : jX} {Q : State → Prop} {n hg nc : Nat} {ret : Option FieldType} {mu : jM} {x0 : Int32} (h : jOk l G X cX4_builtInWords 1 ret RX4 hg nc)
    (k1 : J l G X Q 1 35 [.int x0] [.ref (1000 + 0)] mu n) :
    J l G X Q 1 32 [.int x0] [] mu n := by
  refine J_gets (k := 0) h dX4_builtInWords_32 (by decide) w612 ?_
  exact k1
theorem rX4_builtInWords_36 {l : Launch} {G : jG} {X : jX} {Q : State → Prop} {n hg nc : Nat} {ret : Option FieldType} {mu : jM} {x0 : Int32} (h : jOk l G X cX4_builtInWords 1 ret RX4 hg nc)
    (k1 : J l G X Q 1 39 [.int x0] [.ref (1000 + 1)] mu n) :
    J l G X Q 1 36 [.int x0] [] mu n := by
  refine J_gets (k := 1) h dX4_builtInWords_36 (by decide) w614 ?_
  exact k1
theorem rX4_builtInWords_40 {l : Launch} {G : jG} {X : jX} {Q : State → Prop} {n hg nc : Nat} {ret : Option FieldType} {mu : jM} {x0 : Int32} (h : jOk l G X cX4_builtInWords 1 ret RX4 hg nc)
    (k1 : J l G X Q 1 43 [.int x0] [.ref (1000 + 2)] mu n) :
    J l G X Q 1 40 [.int x0] [] mu n := by
  refine J_gets (k := 2) h dX4_builtInWords_40 (by decide) w616 ?_
  exact k1
theorem rX4_builtInWords_44 {l : Launch} {G : jG} {X : jX} {Q : State → Prop} {n hg nc : Nat} {ret : Option FieldType} {mu : jM} {x0 : Int32} (h : jOk l G X cX4_builtInWords 1 ret RX4 hg nc)
    (k1 : J l G X Q 1 47 [.int x0] [.ref (1000 + 3)] mu n) :
    J l G X Q 1 44 [.int x0] [] mu n := by
  refine J_gets (k := 3) h dX4_builtInWords_44 (by decide) w618 ?_
  exact k1
theorem rX4_builtInWords_48 {l : Launch} {G : jG} {X : jX} {Q : State → Prop} {n hg nc : Nat} {ret : Option FieldType} {mu : jM} {x0 : Int32} (h : jOk l G X cX4_builtInWords 1 ret RX4 hg nc)
    (k1 : J l G X Q 1 51 [.int x0] [.ref (1000 + 4)] mu n) :
    J l G X Q 1 48 [.int x0] [] mu n := by
  refine J_gets (k := 4) h dX4_builtInWords_48 (by decide) w620 ?_
  exact k1
/-! LockstepNet$Program.firstWrong()I -/
theorem rX4_firstWrong_0 {l : Launch} {G : jG} {X : jX} {Q : State → Prop} {n hg nc : Nat} {ret : Option FieldType} {mu : jM} (h : jOk l G X cX4_firstWrong 4 ret RX4 hg nc)
    (k1 : J l G X Q 4 4 [.ref 1, .int 0, .int 0, .float 0] [] mu n) :
    J l G X Q 4 0 [.ref 1, .float 0, .float 0, .float 0] [] mu n := by
  refine J_iconst h dX4_firstWrong_0 ci_0 ?_
  refine J_istore_n h dX4_firstWrong_1 rfl (by decide) rfl ?_
  show J l G X Q 4 2 [.ref 1, .int 0, .float 0, .float 0] [] mu n
  refine J_iconst h dX4_firstWrong_2 ci_0 ?_
  refine J_istore_n h dX4_firstWrong_3 rfl (by decide) rfl ?_
  show J l G X Q 4 4 [.ref 1, .int 0, .int 0, .float 0] [] mu n
  exact k1
theorem rX4_firstWrong_4 {l : Launch} {G : jG} {X : jX} {Q : State → Prop} {n hg nc : Nat} {ret : Option FieldType} {mu : jM} {x1 : Int32} {x2 : Int32} (h : jOk l G X cX4_firstWrong 4 ret RX4 hg nc)
    (k2 : (mu 1 4) ≤ x2 → J l G X Q 4 91 [.ref 1, .int x1, .int x2, .float 0] [.int (-1)] mu n)
    (k4 : ¬ (mu 1 4) ≤ x2 → x1 ≤ x2 → J l G X Q 4 25 [.ref 1, .int x1, .int x2, .int 0] [.int x2, .ref 1] mu n)
    (k5 : ¬ (mu 1 4) ≤ x2 → ¬ x1 ≤ x2 → J l G X Q 4 25 [.ref 1, .int x1, .int x2, .int 1] [.int x2, .ref 1] mu n) :
    J l G X Q 4 4 [.ref 1, .int x1, .int x2, .float 0] [] mu n := by
  refine J_iload_n h dX4_firstWrong_4 rfl rfl ?_
  refine J_aload_n h dX4_firstWrong_5 rfl rfl ?_
  refine J_geti (k := 4) h dX4_firstWrong_6 jc4 rfl rfl (by decide) w119 ?_
  refine J_icmp_ge (tgt := 90) h dX4_firstWrong_9 (by decide) (fun q1 => ?_) (fun q1 => ?_)
  · skip
    refine J_iconst h dX4_firstWrong_90 ci_m1 ?_
    exact k2 q1
  · skip
    refine J_iload_n h dX4_firstWrong_12 rfl rfl ?_
    refine J_iload_n h dX4_firstWrong_13 rfl rfl ?_
    refine J_icmp_ge (tgt := 21) h dX4_firstWrong_14 (by decide) (fun q3 => ?_) (fun q3 => ?_)
    · skip
      refine J_iconst h dX4_firstWrong_21 ci_0 ?_
      refine J_istore_n h dX4_firstWrong_22 rfl (by decide) rfl ?_
      show J l G X Q 4 23 [.ref 1, .int x1, .int x2, .int 0] [] mu n
      refine J_aload_n h dX4_firstWrong_23 rfl rfl ?_
      refine J_iload_n h dX4_firstWrong_24 rfl rfl ?_
      exact k4 q1 q3
    · skip
      refine J_iconst h dX4_firstWrong_17 ci_1 ?_
      refine J_goto (tgt := 22) h dX4_firstWrong_18 (by decide) ?_
      refine J_istore_n h dX4_firstWrong_22 rfl (by decide) rfl ?_
      show J l G X Q 4 23 [.ref 1, .int x1, .int x2, .int 1] [] mu n
      refine J_aload_n h dX4_firstWrong_23 rfl rfl ?_
      refine J_iload_n h dX4_firstWrong_24 rfl rfl ?_
      exact k5 q1 q3
theorem rX4_firstWrong_25 {l : Launch} {G : jG} {X : jX} {Q : State → Prop} {n hg nc : Nat} {ret : Option FieldType} {mu : jM} {x1 : Int32} {x2 : Int32} {x3 : Int32} {y0 : Int32} {Qc : Int32 → jM → Prop} {h' : Nat} (h : jOk l G X cX4_firstWrong 4 ret RX4 hg nc) (hM : jCi l G yX4_hasWrongParts cX4_hasWrongParts 4 h' (some .boolean) (.ref 1 :: [.int y0]) mu Qc) (hh : h' < hg ∧ 4 ≤ 21) (hn : n ≤ nc)
    (kk : ∀ v mu', Qc v mu' → J l G X Q 4 28 [.ref 1, .int x1, .int x2, .int x3] (.int v :: []) mu' n) :
    J l G X Q 4 25 [.ref 1, .int x1, .int x2, .int x3] [.int y0, .ref 1] mu n :=
  J_callVi (As := [.int y0]) (rest := []) h dX4_firstWrong_25 hM (jgV w387 w389 w0 w77 w390) rfl (ci := 4) rfl rfl nmX4_hasWrongParts rfl hh (Nat.le_of_ble_eq_true rfl) rfl kk hn
theorem rX4_firstWrong_28 {l : Launch} {G : jG} {X : jX} {Q : State → Prop} {n hg nc : Nat} {ret : Option FieldType} {mu : jM} {x1 : Int32} {x2 : Int32} {x3 : Int32} {y0 : Int32} (h : jOk l G X cX4_firstWrong 4 ret RX4 hg nc)
    (k2 : ¬ y0 = 0 → J l G X Q 4 60 [.ref 1, .int x1, .int x2, .int x3] [] mu n)
    (k3 : y0 = 0 → J l G X Q 4 34 [.ref 1, .int x1, .int x2, .int x3] [.int x3, .int x2, .ref 1] mu n) :
    J l G X Q 4 28 [.ref 1, .int x1, .int x2, .int x3] [.int y0] mu n := by
  refine J_if_ne (tgt := 60) h dX4_firstWrong_28 (by decide) (fun q1 => ?_) (fun q1 => ?_)
  · skip
    exact k2 q1
  · skip
    refine J_aload_n h dX4_firstWrong_31 rfl rfl ?_
    refine J_iload_n h dX4_firstWrong_32 rfl rfl ?_
    refine J_iload_n h dX4_firstWrong_33 rfl rfl ?_
    exact k3 q1
theorem rX4_firstWrong_60 {l : Launch} {G : jG} {X : jX} {Q : State → Prop} {n hg nc : Nat} {ret : Option FieldType} {mu : jM} {x1 : Int32} {x2 : Int32} {x3 : Int32} (h : jOk l G X cX4_firstWrong 4 ret RX4 hg nc)
    (k1 : J l G X Q 4 61 [.ref 1, .int x1, .int x2, .int x3] [.int x2] mu n) :
    J l G X Q 4 60 [.ref 1, .int x1, .int x2, .int x3] [] mu n := by
  refine J_iload_n h dX4_firstWrong_60 rfl rfl ?_
  exact k1
theorem rX4_firstWrong_34 {l : Launch} {G : jG} {X : jX} {Q : State → Prop} {n hg nc : Nat} {ret : Option FieldType} {mu : jM} {x1 : Int32} {x2 : Int32} {x3 : Int32} {y0 : Int32} {y1 : Int32} {Qc : Int32 → jM → Prop} {h' : Nat} (h : jOk l G X cX4_firstWrong 4 ret RX4 hg nc) (hM : jCi l G yX4_standsWrong cX4_standsWrong 3 h' (some .boolean) (.ref 1 :: [.int y1, .int y0]) mu Qc) (hh : h' < hg ∧ 3 ≤ 21) (hn : n ≤ nc)
    (kk : ∀ v mu', Qc v mu' → J l G X Q 4 37 [.ref 1, .int x1, .int x2, .int x3] (.int v :: []) mu' n) :
    J l G X Q 4 34 [.ref 1, .int x1, .int x2, .int x3] [.int y0, .int y1, .ref 1] mu n :=
  J_callVi (As := [.int y1, .int y0]) (rest := []) h dX4_firstWrong_34 hM (jgV w394 w396 w1 w77 w397) rfl (ci := 4) rfl rfl nmX4_standsWrong rfl hh (Nat.le_of_ble_eq_true rfl) rfl kk hn
theorem rX4_firstWrong_37 {l : Launch} {G : jG} {X : jX} {Q : State → Prop} {n hg nc : Nat} {ret : Option FieldType} {mu : jM} {x1 : Int32} {x2 : Int32} {x3 : Int32} {y0 : Int32} (h : jOk l G X cX4_firstWrong 4 ret RX4 hg nc)
    (k2 : ¬ y0 = 0 → J l G X Q 4 60 [.ref 1, .int x1, .int x2, .int x3] [] mu n)
    (k4 : y0 = 0 → x3 = 0 → J l G X Q 4 54 [.ref 1, .int x1, .int x2, .int x3] [.int (mu 1 4), .int x2, .ref 1] mu n)
    (k5 : y0 = 0 → ¬ x3 = 0 → J l G X Q 4 54 [.ref 1, .int x1, .int x2, .int x3] [.int x1, .int x2, .ref 1] mu n) :
    J l G X Q 4 37 [.ref 1, .int x1, .int x2, .int x3] [.int y0] mu n := by
  refine J_if_ne (tgt := 60) h dX4_firstWrong_37 (by decide) (fun q1 => ?_) (fun q1 => ?_)
  · skip
    exact k2 q1
  · skip
    refine J_aload_n h dX4_firstWrong_40 rfl rfl ?_
    refine J_iload_n h dX4_firstWrong_41 rfl rfl ?_
    refine J_iload_n h dX4_firstWrong_42 rfl rfl ?_
    refine J_if_eq (tgt := 50) h dX4_firstWrong_43 (by decide) (fun q3 => ?_) (fun q3 => ?_)
    · skip
      refine J_aload_n h dX4_firstWrong_50 rfl rfl ?_
      refine J_geti (k := 4) h dX4_firstWrong_51 jc4 rfl rfl (by decide) w119 ?_
      exact k4 q1 q3
    · skip
      refine J_iload_n h dX4_firstWrong_46 rfl rfl ?_
      refine J_goto (tgt := 54) h dX4_firstWrong_47 (by decide) ?_
      exact k5 q1 q3
theorem rX4_firstWrong_54 {l : Launch} {G : jG} {X : jX} {Q : State → Prop} {n hg nc : Nat} {ret : Option FieldType} {mu : jM} {x1 : Int32} {x2 : Int32} {x3 : Int32} {y0 : Int32} {y1 : Int32} {Qc : Int32 → jM → Prop} {h' : Nat} (h : jOk l G X cX4_firstWrong 4 ret RX4 hg nc) (hM : jCi l G yX4_reachesTooFar cX4_reachesTooFar 3 h' (some .boolean) (.ref 1 :: [.int y1, .int y0]) mu Qc) (hh : h' < hg ∧ 3 ≤ 21) (hn : n ≤ nc)
    (kk : ∀ v mu', Qc v mu' → J l G X Q 4 57 [.ref 1, .int x1, .int x2, .int x3] (.int v :: []) mu' n) :
    J l G X Q 4 54 [.ref 1, .int x1, .int x2, .int x3] [.int y0, .int y1, .ref 1] mu n :=
  J_callVi (As := [.int y1, .int y0]) (rest := []) h dX4_firstWrong_54 hM (jgV w402 w404 w3 w77 w405) rfl (ci := 4) rfl rfl nmX4_reachesTooFar rfl hh (Nat.le_of_ble_eq_true rfl) rfl kk hn
theorem rX4_firstWrong_57 {l : Launch} {G : jG} {X : jX} {Q : State → Prop} {n hg nc : Nat} {ret : Option FieldType} {mu : jM} {x1 : Int32} {x2 : Int32} {x3 : Int32} {y0 : Int32} (h : jOk l G X cX4_firstWrong 4 ret RX4 hg nc) (s2 : y0 = 0 → vp_in x2 64) (s5 : y0 = 0 → (mu 2 (x2).toNatClampNeg) = 15 → vp_in x2 64)
    (k4 : y0 = 0 → ¬ (mu 2 (x2).toNatClampNeg) = 15 → J l G X Q 4 84 [.ref 1, .int x1, .int x2, .int x3] [] mu n)
    (k6 : y0 = 0 → (mu 2 (x2).toNatClampNeg) = 15 → J l G X Q 4 84 [.ref 1, .int ((x2 + 1) + (mu 4 (x2).toNatClampNeg)), .int x2, .int x3] [] mu n)
    (k7 : ¬ y0 = 0 → J l G X Q 4 60 [.ref 1, .int x1, .int x2, .int x3] [] mu n) :
    J l G X Q 4 57 [.ref 1, .int x1, .int x2, .int x3] [.int y0] mu n := by
  refine J_if_eq (tgt := 62) h dX4_firstWrong_57 (by decide) (fun q1 => ?_) (fun q1 => ?_)
  · skip
    refine J_aload_n h dX4_firstWrong_62 rfl rfl ?_
    refine J_getr (k := 0) h dX4_firstWrong_63 jc4 rfl rfl (by decide) w111 ?_
    refine J_iload_n h dX4_firstWrong_66 rfl rfl ?_
    refine J_iald h dX4_firstWrong_67 rfl (s2 q1) ?_
    refine J_bipush h dX4_firstWrong_68 cb_15 ?_
    refine J_icmp_ne (tgt := 84) h dX4_firstWrong_70 (by decide) (fun q3 => ?_) (fun q3 => ?_)
    · skip
      exact k4 q1 q3
    · skip
      refine J_iload_n h dX4_firstWrong_73 rfl rfl ?_
      refine J_iconst h dX4_firstWrong_74 ci_1 ?_
      refine J_iadd h dX4_firstWrong_75 ?_
      refine J_aload_n h dX4_firstWrong_76 rfl rfl ?_
      refine J_getr (k := 2) h dX4_firstWrong_77 jc4 rfl rfl (by decide) w115 ?_
      refine J_iload_n h dX4_firstWrong_80 rfl rfl ?_
      refine J_iald h dX4_firstWrong_81 rfl (s5 q1 q3) ?_
      refine J_iadd h dX4_firstWrong_82 ?_
      refine J_istore_n h dX4_firstWrong_83 rfl (by decide) rfl ?_
      show J l G X Q 4 84 [.ref 1, .int ((x2 + 1) + (mu 4 (x2).toNatClampNeg)), .int x2, .int x3] [] mu n
      exact k6 q1 q3
  · skip
    exact k7 q1
theorem rX4_firstWrong_84 {l : Launch} {G : jG} {X : jX} {Q : State → Prop} {n hg nc : Nat} {ret : Option FieldType} {mu : jM} {x1 : Int32} {x2 : Int32} {x3 : Int32} (h : jOk l G X cX4_firstWrong 4 ret RX4 hg nc)
    (k1 : J l G X Q 4 4 [.ref 1, .int x1, .int (x2 + 1), .int x3] [] mu n) :
    J l G X Q 4 84 [.ref 1, .int x1, .int x2, .int x3] [] mu n := by
  refine J_iinc h dX4_firstWrong_84 rfl (cc_1 _) (by decide) rfl ?_
  show J l G X Q 4 87 [.ref 1, .int x1, .int (x2 + 1), .int x3] [] mu n
  refine J_goto (tgt := 4) h dX4_firstWrong_87 (by decide) ?_
  exact k1
theorem rX4_firstWrong_4b {l : Launch} {G : jG} {X : jX} {Q : State → Prop} {n hg nc : Nat} {ret : Option FieldType} {mu : jM} {x1 : Int32} {x2 : Int32} {x3 : Int32} (h : jOk l G X cX4_firstWrong 4 ret RX4 hg nc)
    (k2 : (mu 1 4) ≤ x2 → J l G X Q 4 91 [.ref 1, .int x1, .int x2, .int x3] [.int (-1)] mu n)
    (k4 : ¬ (mu 1 4) ≤ x2 → x1 ≤ x2 → J l G X Q 4 25 [.ref 1, .int x1, .int x2, .int 0] [.int x2, .ref 1] mu n)
    (k5 : ¬ (mu 1 4) ≤ x2 → ¬ x1 ≤ x2 → J l G X Q 4 25 [.ref 1, .int x1, .int x2, .int 1] [.int x2, .ref 1] mu n) :
    J l G X Q 4 4 [.ref 1, .int x1, .int x2, .int x3] [] mu n := by
  refine J_iload_n h dX4_firstWrong_4 rfl rfl ?_
  refine J_aload_n h dX4_firstWrong_5 rfl rfl ?_
  refine J_geti (k := 4) h dX4_firstWrong_6 jc4 rfl rfl (by decide) w119 ?_
  refine J_icmp_ge (tgt := 90) h dX4_firstWrong_9 (by decide) (fun q1 => ?_) (fun q1 => ?_)
  · skip
    refine J_iconst h dX4_firstWrong_90 ci_m1 ?_
    exact k2 q1
  · skip
    refine J_iload_n h dX4_firstWrong_12 rfl rfl ?_
    refine J_iload_n h dX4_firstWrong_13 rfl rfl ?_
    refine J_icmp_ge (tgt := 21) h dX4_firstWrong_14 (by decide) (fun q3 => ?_) (fun q3 => ?_)
    · skip
      refine J_iconst h dX4_firstWrong_21 ci_0 ?_
      refine J_istore_n h dX4_firstWrong_22 rfl (by decide) rfl ?_
      show J l G X Q 4 23 [.ref 1, .int x1, .int x2, .int 0] [] mu n
      refine J_aload_n h dX4_firstWrong_23 rfl rfl ?_
      refine J_iload_n h dX4_firstWrong_24 rfl rfl ?_
      exact k4 q1 q3
    · skip
      refine J_iconst h dX4_firstWrong_17 ci_1 ?_
      refine J_goto (tgt := 22) h dX4_firstWrong_18 (by decide) ?_
      refine J_istore_n h dX4_firstWrong_22 rfl (by decide) rfl ?_
      show J l G X Q 4 23 [.ref 1, .int x1, .int x2, .int 1] [] mu n
      refine J_aload_n h dX4_firstWrong_23 rfl rfl ?_
      refine J_iload_n h dX4_firstWrong_24 rfl rfl ?_
      exact k5 q1 q3
/-! LockstepNet$Program.hasWrongParts(I)Z -/
theorem rX4_hasWrongParts_0 {l : Launch} {G : jG} {X : jX} {Q : State → Prop} {n hg nc : Nat} {ret : Option FieldType} {mu : jM} {x1 : Int32} (h : jOk l G X cX4_hasWrongParts 4 ret RX4 hg nc) (s1 : vp_in x1 64) (s4 : ¬ (mu 2 (x1).toNatClampNeg) < 0 → vp_in x1 64) (s7 : ¬ (mu 2 (x1).toNatClampNeg) < 0 → ¬ 21 < (mu 2 (x1).toNatClampNeg) → vp_in x1 64)
    (k3 : (mu 2 (x1).toNatClampNeg) < 0 → J l G X Q 4 32 [.ref 1, .int x1, .float 0, .float 0] [] mu n)
    (k6 : ¬ (mu 2 (x1).toNatClampNeg) < 0 → 21 < (mu 2 (x1).toNatClampNeg) → J l G X Q 4 32 [.ref 1, .int x1, .float 0, .float 0] [] mu n)
    (k8 : ¬ (mu 2 (x1).toNatClampNeg) < 0 → ¬ 21 < (mu 2 (x1).toNatClampNeg) → J l G X Q 4 26 [.ref 1, .int x1, .float 0, .float 0] [.int (mu 3 (x1).toNatClampNeg)] mu n) :
    J l G X Q 4 0 [.ref 1, .int x1, .float 0, .float 0] [] mu n := by
  refine J_aload_n h dX4_hasWrongParts_0 rfl rfl ?_
  refine J_getr (k := 0) h dX4_hasWrongParts_1 jc4 rfl rfl (by decide) w111 ?_
  refine J_iload_n h dX4_hasWrongParts_4 rfl rfl ?_
  refine J_iald h dX4_hasWrongParts_5 rfl (s1) ?_
  refine J_if_lt (tgt := 32) h dX4_hasWrongParts_6 (by decide) (fun q2 => ?_) (fun q2 => ?_)
  · skip
    exact k3 q2
  · skip
    refine J_aload_n h dX4_hasWrongParts_9 rfl rfl ?_
    refine J_getr (k := 0) h dX4_hasWrongParts_10 jc4 rfl rfl (by decide) w111 ?_
    refine J_iload_n h dX4_hasWrongParts_13 rfl rfl ?_
    refine J_iald h dX4_hasWrongParts_14 rfl (s4 q2) ?_
    refine J_bipush h dX4_hasWrongParts_15 cb_21 ?_
    refine J_icmp_gt (tgt := 32) h dX4_hasWrongParts_17 (by decide) (fun q5 => ?_) (fun q5 => ?_)
    · skip
      exact k6 q2 q5
    · skip
      refine J_aload_n h dX4_hasWrongParts_20 rfl rfl ?_
      refine J_getr (k := 1) h dX4_hasWrongParts_21 jc4 rfl rfl (by decide) w113 ?_
      refine J_iload_n h dX4_hasWrongParts_24 rfl rfl ?_
      refine J_iald h dX4_hasWrongParts_25 rfl (s7 q2 q5) ?_
      exact k8 q2 q5
theorem rX4_hasWrongParts_32 {l : Launch} {G : jG} {X : jX} {Q : State → Prop} {n hg nc : Nat} {ret : Option FieldType} {mu : jM} {x1 : Int32} (h : jOk l G X cX4_hasWrongParts 4 ret RX4 hg nc)
    (k1 : J l G X Q 4 33 [.ref 1, .int x1, .float 0, .float 0] [.int 1] mu n) :
    J l G X Q 4 32 [.ref 1, .int x1, .float 0, .float 0] [] mu n := by
  refine J_iconst h dX4_hasWrongParts_32 ci_1 ?_
  exact k1
theorem rX4_hasWrongParts_26 {l : Launch} {G : jG} {X : jX} {Q : State → Prop} {n hg nc : Nat} {ret : Option FieldType} {mu : jM} {x1 : Int32} {y0 : Int32} {Qc : Int32 → jM → Prop} {h' : Nat} (h : jOk l G X cX4_hasWrongParts 4 ret RX4 hg nc) (hM : jCi l G yX4_isRegister cX4_isRegister 1 h' (some .boolean) [.int y0] mu Qc) (hh : h' < hg ∧ 1 ≤ 21) (hn : n ≤ nc)
    (kk : ∀ v mu', Qc v mu' → J l G X Q 4 29 [.ref 1, .int x1, .float 0, .float 0] (.int v :: []) mu' n) :
    J l G X Q 4 26 [.ref 1, .int x1, .float 0, .float 0] [.int y0] mu n :=
  J_callSi (As := [.int y0]) (rest := []) h dX4_hasWrongParts_26 hM (jgS w391 w392 w77 w393) nmX4_isRegister rfl hh (Nat.le_of_ble_eq_true rfl) rfl kk hn
theorem rX4_hasWrongParts_29 {l : Launch} {G : jG} {X : jX} {Q : State → Prop} {n hg nc : Nat} {ret : Option FieldType} {mu : jM} {x1 : Int32} {y0 : Int32} (h : jOk l G X cX4_hasWrongParts 4 ret RX4 hg nc) (s2 : ¬ y0 = 0 → vp_in x1 64) (s5 : ¬ y0 = 0 → ¬ (mu 2 (x1).toNatClampNeg) < 2 → vp_in x1 64)
    (k4 : ¬ y0 = 0 → (mu 2 (x1).toNatClampNeg) < 2 → J l G X Q 4 59 [.ref 1, .int x1, .float 0, .float 0] [] mu n)
    (k7 : ¬ y0 = 0 → ¬ (mu 2 (x1).toNatClampNeg) < 2 → 11 < (mu 2 (x1).toNatClampNeg) → J l G X Q 4 59 [.ref 1, .int x1, .float 0, .float 0] [] mu n)
    (k9 : ¬ y0 = 0 → ¬ (mu 2 (x1).toNatClampNeg) < 2 → ¬ 11 < (mu 2 (x1).toNatClampNeg) → J l G X Q 4 97 [.ref 1, .int x1, .int 1, .float 0] [] mu n)
    (k10 : y0 = 0 → J l G X Q 4 32 [.ref 1, .int x1, .float 0, .float 0] [] mu n) :
    J l G X Q 4 29 [.ref 1, .int x1, .float 0, .float 0] [.int y0] mu n := by
  refine J_if_ne (tgt := 34) h dX4_hasWrongParts_29 (by decide) (fun q1 => ?_) (fun q1 => ?_)
  · skip
    refine J_aload_n h dX4_hasWrongParts_34 rfl rfl ?_
    refine J_getr (k := 0) h dX4_hasWrongParts_35 jc4 rfl rfl (by decide) w111 ?_
    refine J_iload_n h dX4_hasWrongParts_38 rfl rfl ?_
    refine J_iald h dX4_hasWrongParts_39 rfl (s2 q1) ?_
    refine J_iconst h dX4_hasWrongParts_40 ci_2 ?_
    refine J_icmp_lt (tgt := 59) h dX4_hasWrongParts_41 (by decide) (fun q3 => ?_) (fun q3 => ?_)
    · skip
      exact k4 q1 q3
    · skip
      refine J_aload_n h dX4_hasWrongParts_44 rfl rfl ?_
      refine J_getr (k := 0) h dX4_hasWrongParts_45 jc4 rfl rfl (by decide) w111 ?_
      refine J_iload_n h dX4_hasWrongParts_48 rfl rfl ?_
      refine J_iald h dX4_hasWrongParts_49 rfl (s5 q1 q3) ?_
      refine J_bipush h dX4_hasWrongParts_50 cb_11 ?_
      refine J_icmp_gt (tgt := 59) h dX4_hasWrongParts_52 (by decide) (fun q6 => ?_) (fun q6 => ?_)
      · skip
        exact k7 q1 q3 q6
      · skip
        refine J_iconst h dX4_hasWrongParts_55 ci_1 ?_
        refine J_goto (tgt := 60) h dX4_hasWrongParts_56 (by decide) ?_
        refine J_istore_n h dX4_hasWrongParts_60 rfl (by decide) rfl ?_
        show J l G X Q 4 61 [.ref 1, .int x1, .int 1, .float 0] [] mu n
        refine J_iload_n h dX4_hasWrongParts_61 rfl rfl ?_
        refine J_if_ne (tgt := 97) h dX4_hasWrongParts_62 (by decide) (fun q8 => ?_) (fun q8 => ?_)
        · skip
          exact k9 q1 q3 q6
        · skip
          exact absurd (show (1 : Int32) = (0 : Int32) from q8) (by decide)
  · skip
    exact k10 q1
theorem rX4_hasWrongParts_59 {l : Launch} {G : jG} {X : jX} {Q : State → Prop} {n hg nc : Nat} {ret : Option FieldType} {mu : jM} {x1 : Int32} (h : jOk l G X cX4_hasWrongParts 4 ret RX4 hg nc) (s2 : vp_in x1 64) (s5 : ¬ (mu 2 (x1).toNatClampNeg) = 1 → vp_in x1 64) (s8 : ¬ (mu 2 (x1).toNatClampNeg) = 1 → ¬ (mu 2 (x1).toNatClampNeg) = 12 → vp_in x1 64)
    (k4 : (mu 2 (x1).toNatClampNeg) = 1 → J l G X Q 4 97 [.ref 1, .int x1, .int 0, .float 0] [] mu n)
    (k7 : ¬ (mu 2 (x1).toNatClampNeg) = 1 → (mu 2 (x1).toNatClampNeg) = 12 → J l G X Q 4 97 [.ref 1, .int x1, .int 0, .float 0] [] mu n)
    (k11 : ¬ (mu 2 (x1).toNatClampNeg) = 1 → ¬ (mu 2 (x1).toNatClampNeg) = 12 → ¬ (mu 2 (x1).toNatClampNeg) = 13 → J l G X Q 4 119 [.ref 1, .int x1, .int 0, .int 0] [] mu n)
    (k12 : ¬ (mu 2 (x1).toNatClampNeg) = 1 → ¬ (mu 2 (x1).toNatClampNeg) = 12 → (mu 2 (x1).toNatClampNeg) = 13 → J l G X Q 4 97 [.ref 1, .int x1, .int 0, .float 0] [] mu n) :
    J l G X Q 4 59 [.ref 1, .int x1, .float 0, .float 0] [] mu n := by
  refine J_iconst h dX4_hasWrongParts_59 ci_0 ?_
  refine J_istore_n h dX4_hasWrongParts_60 rfl (by decide) rfl ?_
  show J l G X Q 4 61 [.ref 1, .int x1, .int 0, .float 0] [] mu n
  refine J_iload_n h dX4_hasWrongParts_61 rfl rfl ?_
  refine J_if_ne (tgt := 97) h dX4_hasWrongParts_62 (by decide) (fun q1 => ?_) (fun q1 => ?_)
  · skip
    exact absurd (show ¬ (0 : Int32) = (0 : Int32) from q1) (by decide)
  · skip
    refine J_aload_n h dX4_hasWrongParts_65 rfl rfl ?_
    refine J_getr (k := 0) h dX4_hasWrongParts_66 jc4 rfl rfl (by decide) w111 ?_
    refine J_iload_n h dX4_hasWrongParts_69 rfl rfl ?_
    refine J_iald h dX4_hasWrongParts_70 rfl (s2) ?_
    refine J_iconst h dX4_hasWrongParts_71 ci_1 ?_
    refine J_icmp_eq (tgt := 97) h dX4_hasWrongParts_72 (by decide) (fun q3 => ?_) (fun q3 => ?_)
    · skip
      exact k4 q3
    · skip
      refine J_aload_n h dX4_hasWrongParts_75 rfl rfl ?_
      refine J_getr (k := 0) h dX4_hasWrongParts_76 jc4 rfl rfl (by decide) w111 ?_
      refine J_iload_n h dX4_hasWrongParts_79 rfl rfl ?_
      refine J_iald h dX4_hasWrongParts_80 rfl (s5 q3) ?_
      refine J_bipush h dX4_hasWrongParts_81 cb_12 ?_
      refine J_icmp_eq (tgt := 97) h dX4_hasWrongParts_83 (by decide) (fun q6 => ?_) (fun q6 => ?_)
      · skip
        exact k7 q3 q6
      · skip
        refine J_aload_n h dX4_hasWrongParts_86 rfl rfl ?_
        refine J_getr (k := 0) h dX4_hasWrongParts_87 jc4 rfl rfl (by decide) w111 ?_
        refine J_iload_n h dX4_hasWrongParts_90 rfl rfl ?_
        refine J_iald h dX4_hasWrongParts_91 rfl (s8 q3 q6) ?_
        refine J_bipush h dX4_hasWrongParts_92 cb_13 ?_
        refine J_icmp_ne (tgt := 101) h dX4_hasWrongParts_94 (by decide) (fun q9 => ?_) (fun q9 => ?_)
        · skip
          refine J_iconst h dX4_hasWrongParts_101 ci_0 ?_
          refine J_istore_n h dX4_hasWrongParts_102 rfl (by decide) rfl ?_
          show J l G X Q 4 103 [.ref 1, .int x1, .int 0, .int 0] [] mu n
          refine J_iload_n h dX4_hasWrongParts_103 rfl rfl ?_
          refine J_if_eq (tgt := 119) h dX4_hasWrongParts_104 (by decide) (fun q10 => ?_) (fun q10 => ?_)
          · skip
            exact k11 q3 q6 q9
          · skip
            exact absurd (show ¬ (0 : Int32) = (0 : Int32) from q10) (by decide)
        · skip
          exact k12 q3 q6 q9
theorem rX4_hasWrongParts_97 {l : Launch} {G : jG} {X : jX} {Q : State → Prop} {n hg nc : Nat} {ret : Option FieldType} {mu : jM} {x1 : Int32} {x2 : Int32} (h : jOk l G X cX4_hasWrongParts 4 ret RX4 hg nc) (s2 : vp_in x1 64)
    (k3 : J l G X Q 4 113 [.ref 1, .int x1, .int x2, .int 1] [.int (mu 4 (x1).toNatClampNeg)] mu n) :
    J l G X Q 4 97 [.ref 1, .int x1, .int x2, .float 0] [] mu n := by
  refine J_iconst h dX4_hasWrongParts_97 ci_1 ?_
  refine J_goto (tgt := 102) h dX4_hasWrongParts_98 (by decide) ?_
  refine J_istore_n h dX4_hasWrongParts_102 rfl (by decide) rfl ?_
  show J l G X Q 4 103 [.ref 1, .int x1, .int x2, .int 1] [] mu n
  refine J_iload_n h dX4_hasWrongParts_103 rfl rfl ?_
  refine J_if_eq (tgt := 119) h dX4_hasWrongParts_104 (by decide) (fun q1 => ?_) (fun q1 => ?_)
  · skip
    exact absurd (show (1 : Int32) = (0 : Int32) from q1) (by decide)
  · skip
    refine J_aload_n h dX4_hasWrongParts_107 rfl rfl ?_
    refine J_getr (k := 2) h dX4_hasWrongParts_108 jc4 rfl rfl (by decide) w115 ?_
    refine J_iload_n h dX4_hasWrongParts_111 rfl rfl ?_
    refine J_iald h dX4_hasWrongParts_112 rfl (s2) ?_
    exact k3
theorem rX4_hasWrongParts_119 {l : Launch} {G : jG} {X : jX} {Q : State → Prop} {n hg nc : Nat} {ret : Option FieldType} {mu : jM} {x1 : Int32} {x2 : Int32} {x3 : Int32} (h : jOk l G X cX4_hasWrongParts 4 ret RX4 hg nc) (s3 : ¬ x2 = 0 → vp_in x1 64)
    (k2 : x2 = 0 → J l G X Q 4 139 [.ref 1, .int x1, .int x2, .int x3] [] mu n)
    (k4 : ¬ x2 = 0 → J l G X Q 4 129 [.ref 1, .int x1, .int x2, .int x3] [.int (mu 5 (x1).toNatClampNeg)] mu n) :
    J l G X Q 4 119 [.ref 1, .int x1, .int x2, .int x3] [] mu n := by
  refine J_iload_n h dX4_hasWrongParts_119 rfl rfl ?_
  refine J_if_eq (tgt := 139) h dX4_hasWrongParts_120 (by decide) (fun q1 => ?_) (fun q1 => ?_)
  · skip
    exact k2 q1
  · skip
    refine J_aload_n h dX4_hasWrongParts_123 rfl rfl ?_
    refine J_getr (k := 3) h dX4_hasWrongParts_124 jc4 rfl rfl (by decide) w117 ?_
    refine J_iload_n h dX4_hasWrongParts_127 rfl rfl ?_
    refine J_iald h dX4_hasWrongParts_128 rfl (s3 q1) ?_
    exact k4 q1
theorem rX4_hasWrongParts_113 {l : Launch} {G : jG} {X : jX} {Q : State → Prop} {n hg nc : Nat} {ret : Option FieldType} {mu : jM} {x1 : Int32} {x2 : Int32} {x3 : Int32} {y0 : Int32} {Qc : Int32 → jM → Prop} {h' : Nat} (h : jOk l G X cX4_hasWrongParts 4 ret RX4 hg nc) (hM : jCi l G yX4_isRegister cX4_isRegister 1 h' (some .boolean) [.int y0] mu Qc) (hh : h' < hg ∧ 1 ≤ 21) (hn : n ≤ nc)
    (kk : ∀ v mu', Qc v mu' → J l G X Q 4 116 [.ref 1, .int x1, .int x2, .int x3] (.int v :: []) mu' n) :
    J l G X Q 4 113 [.ref 1, .int x1, .int x2, .int x3] [.int y0] mu n :=
  J_callSi (As := [.int y0]) (rest := []) h dX4_hasWrongParts_113 hM (jgS w391 w392 w77 w393) nmX4_isRegister rfl hh (Nat.le_of_ble_eq_true rfl) rfl kk hn
theorem rX4_hasWrongParts_139 {l : Launch} {G : jG} {X : jX} {Q : State → Prop} {n hg nc : Nat} {ret : Option FieldType} {mu : jM} {x1 : Int32} {x2 : Int32} {x3 : Int32} (h : jOk l G X cX4_hasWrongParts 4 ret RX4 hg nc)
    (k1 : J l G X Q 4 140 [.ref 1, .int x1, .int x2, .int x3] [.int 0] mu n) :
    J l G X Q 4 139 [.ref 1, .int x1, .int x2, .int x3] [] mu n := by
  refine J_iconst h dX4_hasWrongParts_139 ci_0 ?_
  exact k1
theorem rX4_hasWrongParts_129 {l : Launch} {G : jG} {X : jX} {Q : State → Prop} {n hg nc : Nat} {ret : Option FieldType} {mu : jM} {x1 : Int32} {x2 : Int32} {x3 : Int32} {y0 : Int32} {Qc : Int32 → jM → Prop} {h' : Nat} (h : jOk l G X cX4_hasWrongParts 4 ret RX4 hg nc) (hM : jCi l G yX4_isRegister cX4_isRegister 1 h' (some .boolean) [.int y0] mu Qc) (hh : h' < hg ∧ 1 ≤ 21) (hn : n ≤ nc)
    (kk : ∀ v mu', Qc v mu' → J l G X Q 4 132 [.ref 1, .int x1, .int x2, .int x3] (.int v :: []) mu' n) :
    J l G X Q 4 129 [.ref 1, .int x1, .int x2, .int x3] [.int y0] mu n :=
  J_callSi (As := [.int y0]) (rest := []) h dX4_hasWrongParts_129 hM (jgS w391 w392 w77 w393) nmX4_isRegister rfl hh (Nat.le_of_ble_eq_true rfl) rfl kk hn
theorem rX4_hasWrongParts_116 {l : Launch} {G : jG} {X : jX} {Q : State → Prop} {n hg nc : Nat} {ret : Option FieldType} {mu : jM} {x1 : Int32} {x2 : Int32} {x3 : Int32} {y0 : Int32} (h : jOk l G X cX4_hasWrongParts 4 ret RX4 hg nc)
    (k2 : y0 = 0 → J l G X Q 4 135 [.ref 1, .int x1, .int x2, .int x3] [] mu n)
    (k3 : ¬ y0 = 0 → J l G X Q 4 119 [.ref 1, .int x1, .int x2, .int x3] [] mu n) :
    J l G X Q 4 116 [.ref 1, .int x1, .int x2, .int x3] [.int y0] mu n := by
  refine J_if_eq (tgt := 135) h dX4_hasWrongParts_116 (by decide) (fun q1 => ?_) (fun q1 => ?_)
  · skip
    exact k2 q1
  · skip
    exact k3 q1
theorem rX4_hasWrongParts_132 {l : Launch} {G : jG} {X : jX} {Q : State → Prop} {n hg nc : Nat} {ret : Option FieldType} {mu : jM} {x1 : Int32} {x2 : Int32} {x3 : Int32} {y0 : Int32} (h : jOk l G X cX4_hasWrongParts 4 ret RX4 hg nc)
    (k2 : ¬ y0 = 0 → J l G X Q 4 139 [.ref 1, .int x1, .int x2, .int x3] [] mu n)
    (k3 : y0 = 0 → J l G X Q 4 135 [.ref 1, .int x1, .int x2, .int x3] [] mu n) :
    J l G X Q 4 132 [.ref 1, .int x1, .int x2, .int x3] [.int y0] mu n := by
  refine J_if_ne (tgt := 139) h dX4_hasWrongParts_132 (by decide) (fun q1 => ?_) (fun q1 => ?_)
  · skip
    exact k2 q1
  · skip
    exact k3 q1
theorem rX4_hasWrongParts_135 {l : Launch} {G : jG} {X : jX} {Q : State → Prop} {n hg nc : Nat} {ret : Option FieldType} {mu : jM} {x1 : Int32} {x2 : Int32} {x3 : Int32} (h : jOk l G X cX4_hasWrongParts 4 ret RX4 hg nc)
    (k1 : J l G X Q 4 140 [.ref 1, .int x1, .int x2, .int x3] [.int 1] mu n) :
    J l G X Q 4 135 [.ref 1, .int x1, .int x2, .int x3] [] mu n := by
  refine J_iconst h dX4_hasWrongParts_135 ci_1 ?_
  refine J_goto (tgt := 140) h dX4_hasWrongParts_136 (by decide) ?_
  exact k1
/-! LockstepNet$Program.isRegister(I)Z -/
theorem rX4_isRegister_0 {l : Launch} {G : jG} {X : jX} {Q : State → Prop} {n hg nc : Nat} {ret : Option FieldType} {mu : jM} {x0 : Int32} (h : jOk l G X cX4_isRegister 1 ret RX4 hg nc)
    (k2 : x0 < 0 → J l G X Q 1 14 [.int x0] [] mu n)
    (k4 : ¬ x0 < 0 → 8 ≤ x0 → J l G X Q 1 14 [.int x0] [] mu n)
    (k5 : ¬ x0 < 0 → ¬ 8 ≤ x0 → J l G X Q 1 15 [.int x0] [.int 1] mu n) :
    J l G X Q 1 0 [.int x0] [] mu n := by
  refine J_iload_n h dX4_isRegister_0 rfl rfl ?_
  refine J_if_lt (tgt := 14) h dX4_isRegister_1 (by decide) (fun q1 => ?_) (fun q1 => ?_)
  · skip
    exact k2 q1
  · skip
    refine J_iload_n h dX4_isRegister_4 rfl rfl ?_
    refine J_bipush h dX4_isRegister_5 cb_8 ?_
    refine J_icmp_ge (tgt := 14) h dX4_isRegister_7 (by decide) (fun q3 => ?_) (fun q3 => ?_)
    · skip
      exact k4 q1 q3
    · skip
      refine J_iconst h dX4_isRegister_10 ci_1 ?_
      refine J_goto (tgt := 15) h dX4_isRegister_11 (by decide) ?_
      exact k5 q1 q3
theorem rX4_isRegister_14 {l : Launch} {G : jG} {X : jX} {Q : State → Prop} {n hg nc : Nat} {ret : Option FieldType} {mu : jM} {x0 : Int32} (h : jOk l G X cX4_isRegister 1 ret RX4 hg nc)
    (k1 : J l G X Q 1 15 [.int x0] [.int 0] mu n) :
    J l G X Q 1 14 [.int x0] [] mu n := by
  refine J_iconst h dX4_isRegister_14 ci_0 ?_
  exact k1
/-! LockstepNet$Program.standsWrong(IZ)Z -/
theorem rX4_standsWrong_0 {l : Launch} {G : jG} {X : jX} {Q : State → Prop} {n hg nc : Nat} {ret : Option FieldType} {mu : jM} {x1 : Int32} {x2 : Int32} (h : jOk l G X cX4_standsWrong 3 ret RX4 hg nc) (s1 : vp_in x1 64)
    (k2 : J l G X Q 3 6 [.ref 1, .int x1, .int x2] [.int (mu 2 (x1).toNatClampNeg)] mu n) :
    J l G X Q 3 0 [.ref 1, .int x1, .int x2] [] mu n := by
  refine J_aload_n h dX4_standsWrong_0 rfl rfl ?_
  refine J_getr (k := 0) h dX4_standsWrong_1 jc4 rfl rfl (by decide) w111 ?_
  refine J_iload_n h dX4_standsWrong_4 rfl rfl ?_
  refine J_iald h dX4_standsWrong_5 rfl (s1) ?_
  exact k2
theorem rX4_standsWrong_6 {l : Launch} {G : jG} {X : jX} {Q : State → Prop} {n hg nc : Nat} {ret : Option FieldType} {mu : jM} {x1 : Int32} {x2 : Int32} {y0 : Int32} (h : jOk l G X cX4_standsWrong 3 ret RX4 hg nc)
    (k14 : y0 = 14 → J l G X Q 3 42 [.ref 1, .int x1, .int x2] [] mu n)
    (k15 : y0 = 15 → J l G X Q 3 40 [.ref 1, .int x1, .int x2] [] mu n)
    (k16 : y0 = 16 → J l G X Q 3 60 [.ref 1, .int x1, .int x2] [] mu n)
    (k17 : y0 = 17 → J l G X Q 3 60 [.ref 1, .int x1, .int x2] [] mu n)
    (k18 : y0 = 18 → J l G X Q 3 60 [.ref 1, .int x1, .int x2] [] mu n)
    (kd : ¬ y0 = 14 → ¬ y0 = 15 → ¬ y0 = 16 → ¬ y0 = 17 → ¬ y0 = 18 → J l G X Q 3 70 [.ref 1, .int x1, .int x2] [] mu n) :
    J l G X Q 3 6 [.ref 1, .int x1, .int x2] [.int y0] mu n := by
  by_cases e14 : y0 = 14
  · subst e14
    exact J_tableIn (tgt := 42) (off := 36) h dX4_standsWrong_6 (by decide) (by decide) (by decide) (by decide) (k14 rfl)
  by_cases e15 : y0 = 15
  · subst e15
    exact J_tableIn (tgt := 40) (off := 34) h dX4_standsWrong_6 (by decide) (by decide) (by decide) (by decide) (k15 rfl)
  by_cases e16 : y0 = 16
  · subst e16
    exact J_tableIn (tgt := 60) (off := 54) h dX4_standsWrong_6 (by decide) (by decide) (by decide) (by decide) (k16 rfl)
  by_cases e17 : y0 = 17
  · subst e17
    exact J_tableIn (tgt := 60) (off := 54) h dX4_standsWrong_6 (by decide) (by decide) (by decide) (by decide) (k17 rfl)
  by_cases e18 : y0 = 18
  · subst e18
    exact J_tableIn (tgt := 60) (off := 54) h dX4_standsWrong_6 (by decide) (by decide) (by decide) (by decide) (k18 rfl)
  refine J_tableOut (tgt := 70) h dX4_standsWrong_6 ?_ (by decide) (kd e14 e15 e16 e17 e18)
  refine jout 5 (by decide) (fun k hk => ?_)
  match k, hk with
  | 0, _ => exact lv_neT e14 (by decide)
  | 1, _ => exact lv_neT e15 (by decide)
  | 2, _ => exact lv_neT e16 (by decide)
  | 3, _ => exact lv_neT e17 (by decide)
  | 4, _ => exact lv_neT e18 (by decide)
  | k + 5, hk => omega
theorem rX4_standsWrong_42 {l : Launch} {G : jG} {X : jX} {Q : State → Prop} {n hg nc : Nat} {ret : Option FieldType} {mu : jM} {x1 : Int32} {x2 : Int32} (h : jOk l G X cX4_standsWrong 3 ret RX4 hg nc)
    (k2 : ¬ x2 = 0 → J l G X Q 3 58 [.ref 1, .int x1, .int x2] [] mu n)
    (k3 : x2 = 0 → J l G X Q 3 48 [.ref 1, .int x1, .int x2] [.int x1, .ref 1] mu n) :
    J l G X Q 3 42 [.ref 1, .int x1, .int x2] [] mu n := by
  refine J_iload_n h dX4_standsWrong_42 rfl rfl ?_
  refine J_if_ne (tgt := 58) h dX4_standsWrong_43 (by decide) (fun q1 => ?_) (fun q1 => ?_)
  · skip
    exact k2 q1
  · skip
    refine J_aload_n h dX4_standsWrong_46 rfl rfl ?_
    refine J_iload_n h dX4_standsWrong_47 rfl rfl ?_
    exact k3 q1
theorem rX4_standsWrong_40 {l : Launch} {G : jG} {X : jX} {Q : State → Prop} {n hg nc : Nat} {ret : Option FieldType} {mu : jM} {x1 : Int32} {x2 : Int32} (h : jOk l G X cX4_standsWrong 3 ret RX4 hg nc)
    (k1 : J l G X Q 3 41 [.ref 1, .int x1, .int x2] [.int x2] mu n) :
    J l G X Q 3 40 [.ref 1, .int x1, .int x2] [] mu n := by
  refine J_iload_n h dX4_standsWrong_40 rfl rfl ?_
  exact k1
theorem rX4_standsWrong_60 {l : Launch} {G : jG} {X : jX} {Q : State → Prop} {n hg nc : Nat} {ret : Option FieldType} {mu : jM} {x1 : Int32} {x2 : Int32} (h : jOk l G X cX4_standsWrong 3 ret RX4 hg nc)
    (k2 : ¬ x2 = 0 → J l G X Q 3 69 [.ref 1, .int x1, .int x2] [.int 0] mu n)
    (k3 : x2 = 0 → J l G X Q 3 69 [.ref 1, .int x1, .int x2] [.int 1] mu n) :
    J l G X Q 3 60 [.ref 1, .int x1, .int x2] [] mu n := by
  refine J_iload_n h dX4_standsWrong_60 rfl rfl ?_
  refine J_if_ne (tgt := 68) h dX4_standsWrong_61 (by decide) (fun q1 => ?_) (fun q1 => ?_)
  · skip
    refine J_iconst h dX4_standsWrong_68 ci_0 ?_
    exact k2 q1
  · skip
    refine J_iconst h dX4_standsWrong_64 ci_1 ?_
    refine J_goto (tgt := 69) h dX4_standsWrong_65 (by decide) ?_
    exact k3 q1
theorem rX4_standsWrong_70 {l : Launch} {G : jG} {X : jX} {Q : State → Prop} {n hg nc : Nat} {ret : Option FieldType} {mu : jM} {x1 : Int32} {x2 : Int32} (h : jOk l G X cX4_standsWrong 3 ret RX4 hg nc)
    (k1 : J l G X Q 3 71 [.ref 1, .int x1, .int x2] [.int 0] mu n) :
    J l G X Q 3 70 [.ref 1, .int x1, .int x2] [] mu n := by
  refine J_iconst h dX4_standsWrong_70 ci_0 ?_
  exact k1
theorem rX4_standsWrong_58 {l : Launch} {G : jG} {X : jX} {Q : State → Prop} {n hg nc : Nat} {ret : Option FieldType} {mu : jM} {x1 : Int32} {x2 : Int32} (h : jOk l G X cX4_standsWrong 3 ret RX4 hg nc)
    (k1 : J l G X Q 3 59 [.ref 1, .int x1, .int x2] [.int 0] mu n) :
    J l G X Q 3 58 [.ref 1, .int x1, .int x2] [] mu n := by
  refine J_iconst h dX4_standsWrong_58 ci_0 ?_
  exact k1
theorem rX4_standsWrong_48 {l : Launch} {G : jG} {X : jX} {Q : State → Prop} {n hg nc : Nat} {ret : Option FieldType} {mu : jM} {x1 : Int32} {x2 : Int32} {y0 : Int32} {Qc : Int32 → jM → Prop} {h' : Nat} (h : jOk l G X cX4_standsWrong 3 ret RX4 hg nc) (hM : jCi l G yX4_skipsIntoEach cX4_skipsIntoEach 4 h' (some .boolean) (.ref 1 :: [.int y0]) mu Qc) (hh : h' < hg ∧ 4 ≤ 21) (hn : n ≤ nc)
    (kk : ∀ v mu', Qc v mu' → J l G X Q 3 51 [.ref 1, .int x1, .int x2] (.int v :: []) mu' n) :
    J l G X Q 3 48 [.ref 1, .int x1, .int x2] [.int y0, .ref 1] mu n :=
  J_callVi (As := [.int y0]) (rest := []) h dX4_standsWrong_48 hM (jgV w398 w400 w2 w77 w401) rfl (ci := 4) rfl rfl nmX4_skipsIntoEach rfl hh (Nat.le_of_ble_eq_true rfl) rfl kk hn
theorem rX4_standsWrong_51 {l : Launch} {G : jG} {X : jX} {Q : State → Prop} {n hg nc : Nat} {ret : Option FieldType} {mu : jM} {x1 : Int32} {x2 : Int32} {y0 : Int32} (h : jOk l G X cX4_standsWrong 3 ret RX4 hg nc)
    (k2 : y0 = 0 → J l G X Q 3 58 [.ref 1, .int x1, .int x2] [] mu n)
    (k3 : ¬ y0 = 0 → J l G X Q 3 59 [.ref 1, .int x1, .int x2] [.int 1] mu n) :
    J l G X Q 3 51 [.ref 1, .int x1, .int x2] [.int y0] mu n := by
  refine J_if_eq (tgt := 58) h dX4_standsWrong_51 (by decide) (fun q1 => ?_) (fun q1 => ?_)
  · skip
    exact k2 q1
  · skip
    refine J_iconst h dX4_standsWrong_54 ci_1 ?_
    refine J_goto (tgt := 59) h dX4_standsWrong_55 (by decide) ?_
    exact k3 q1
/-! LockstepNet$Program.reachesTooFar(II)Z -/
theorem rX4_reachesTooFar_0 {l : Launch} {G : jG} {X : jX} {Q : State → Prop} {n hg nc : Nat} {ret : Option FieldType} {mu : jM} {x1 : Int32} {x2 : Int32} (h : jOk l G X cX4_reachesTooFar 3 ret RX4 hg nc) (s1 : vp_in x1 64) (s4 : ¬ (mu 2 (x1).toNatClampNeg) = 14 → vp_in x1 64)
    (k3 : (mu 2 (x1).toNatClampNeg) = 14 → J l G X Q 3 22 [.ref 1, .int x1, .int x2] [] mu n)
    (k6 : ¬ (mu 2 (x1).toNatClampNeg) = 14 → ¬ (mu 2 (x1).toNatClampNeg) = 15 → J l G X Q 3 50 [.ref 1, .int x1, .int x2] [] mu n)
    (k7 : ¬ (mu 2 (x1).toNatClampNeg) = 14 → (mu 2 (x1).toNatClampNeg) = 15 → J l G X Q 3 22 [.ref 1, .int x1, .int x2] [] mu n) :
    J l G X Q 3 0 [.ref 1, .int x1, .int x2] [] mu n := by
  refine J_aload_n h dX4_reachesTooFar_0 rfl rfl ?_
  refine J_getr (k := 0) h dX4_reachesTooFar_1 jc4 rfl rfl (by decide) w111 ?_
  refine J_iload_n h dX4_reachesTooFar_4 rfl rfl ?_
  refine J_iald h dX4_reachesTooFar_5 rfl (s1) ?_
  refine J_bipush h dX4_reachesTooFar_6 cb_14 ?_
  refine J_icmp_eq (tgt := 22) h dX4_reachesTooFar_8 (by decide) (fun q2 => ?_) (fun q2 => ?_)
  · skip
    exact k3 q2
  · skip
    refine J_aload_n h dX4_reachesTooFar_11 rfl rfl ?_
    refine J_getr (k := 0) h dX4_reachesTooFar_12 jc4 rfl rfl (by decide) w111 ?_
    refine J_iload_n h dX4_reachesTooFar_15 rfl rfl ?_
    refine J_iald h dX4_reachesTooFar_16 rfl (s4 q2) ?_
    refine J_bipush h dX4_reachesTooFar_17 cb_15 ?_
    refine J_icmp_ne (tgt := 50) h dX4_reachesTooFar_19 (by decide) (fun q5 => ?_) (fun q5 => ?_)
    · skip
      exact k6 q2 q5
    · skip
      exact k7 q2 q5
theorem rX4_reachesTooFar_22 {l : Launch} {G : jG} {X : jX} {Q : State → Prop} {n hg nc : Nat} {ret : Option FieldType} {mu : jM} {x1 : Int32} {x2 : Int32} (h : jOk l G X cX4_reachesTooFar 3 ret RX4 hg nc) (s1 : vp_in x1 64) (s4 : ¬ (mu 4 (x1).toNatClampNeg) < 1 → vp_in x1 64)
    (k3 : (mu 4 (x1).toNatClampNeg) < 1 → J l G X Q 3 46 [.ref 1, .int x1, .int x2] [] mu n)
    (k6 : ¬ (mu 4 (x1).toNatClampNeg) < 1 → (mu 4 (x1).toNatClampNeg) ≤ ((x2 - 1) - x1) → J l G X Q 3 50 [.ref 1, .int x1, .int x2] [] mu n)
    (k7 : ¬ (mu 4 (x1).toNatClampNeg) < 1 → ¬ (mu 4 (x1).toNatClampNeg) ≤ ((x2 - 1) - x1) → J l G X Q 3 46 [.ref 1, .int x1, .int x2] [] mu n) :
    J l G X Q 3 22 [.ref 1, .int x1, .int x2] [] mu n := by
  refine J_aload_n h dX4_reachesTooFar_22 rfl rfl ?_
  refine J_getr (k := 2) h dX4_reachesTooFar_23 jc4 rfl rfl (by decide) w115 ?_
  refine J_iload_n h dX4_reachesTooFar_26 rfl rfl ?_
  refine J_iald h dX4_reachesTooFar_27 rfl (s1) ?_
  refine J_iconst h dX4_reachesTooFar_28 ci_1 ?_
  refine J_icmp_lt (tgt := 46) h dX4_reachesTooFar_29 (by decide) (fun q2 => ?_) (fun q2 => ?_)
  · skip
    exact k3 q2
  · skip
    refine J_aload_n h dX4_reachesTooFar_32 rfl rfl ?_
    refine J_getr (k := 2) h dX4_reachesTooFar_33 jc4 rfl rfl (by decide) w115 ?_
    refine J_iload_n h dX4_reachesTooFar_36 rfl rfl ?_
    refine J_iald h dX4_reachesTooFar_37 rfl (s4 q2) ?_
    refine J_iload_n h dX4_reachesTooFar_38 rfl rfl ?_
    refine J_iconst h dX4_reachesTooFar_39 ci_1 ?_
    refine J_isub h dX4_reachesTooFar_40 ?_
    refine J_iload_n h dX4_reachesTooFar_41 rfl rfl ?_
    refine J_isub h dX4_reachesTooFar_42 ?_
    refine J_icmp_le (tgt := 50) h dX4_reachesTooFar_43 (by decide) (fun q5 => ?_) (fun q5 => ?_)
    · skip
      exact k6 q2 q5
    · skip
      exact k7 q2 q5
theorem rX4_reachesTooFar_50 {l : Launch} {G : jG} {X : jX} {Q : State → Prop} {n hg nc : Nat} {ret : Option FieldType} {mu : jM} {x1 : Int32} {x2 : Int32} (h : jOk l G X cX4_reachesTooFar 3 ret RX4 hg nc)
    (k1 : J l G X Q 3 51 [.ref 1, .int x1, .int x2] [.int 0] mu n) :
    J l G X Q 3 50 [.ref 1, .int x1, .int x2] [] mu n := by
  refine J_iconst h dX4_reachesTooFar_50 ci_0 ?_
  exact k1
theorem rX4_reachesTooFar_46 {l : Launch} {G : jG} {X : jX} {Q : State → Prop} {n hg nc : Nat} {ret : Option FieldType} {mu : jM} {x1 : Int32} {x2 : Int32} (h : jOk l G X cX4_reachesTooFar 3 ret RX4 hg nc)
    (k1 : J l G X Q 3 51 [.ref 1, .int x1, .int x2] [.int 1] mu n) :
    J l G X Q 3 46 [.ref 1, .int x1, .int x2] [] mu n := by
  refine J_iconst h dX4_reachesTooFar_46 ci_1 ?_
  refine J_goto (tgt := 51) h dX4_reachesTooFar_47 (by decide) ?_
  exact k1
/-! LockstepNet$Program.skipsIntoEach(I)Z -/
theorem rX4_skipsIntoEach_0 {l : Launch} {G : jG} {X : jX} {Q : State → Prop} {n hg nc : Nat} {ret : Option FieldType} {mu : jM} {x1 : Int32} (h : jOk l G X cX4_skipsIntoEach 4 ret RX4 hg nc)
    (k1 : J l G X Q 4 6 [.ref 1, .int x1, .float 0, .float 0] [.int (mu 1 4), .int x1, .ref 1] mu n) :
    J l G X Q 4 0 [.ref 1, .int x1, .float 0, .float 0] [] mu n := by
  refine J_aload_n h dX4_skipsIntoEach_0 rfl rfl ?_
  refine J_iload_n h dX4_skipsIntoEach_1 rfl rfl ?_
  refine J_aload_n h dX4_skipsIntoEach_2 rfl rfl ?_
  refine J_geti (k := 4) h dX4_skipsIntoEach_3 jc4 rfl rfl (by decide) w119 ?_
  exact k1
theorem rX4_skipsIntoEach_6 {l : Launch} {G : jG} {X : jX} {Q : State → Prop} {n hg nc : Nat} {ret : Option FieldType} {mu : jM} {x1 : Int32} {y0 : Int32} {y1 : Int32} {Qc : Int32 → jM → Prop} {h' : Nat} (h : jOk l G X cX4_skipsIntoEach 4 ret RX4 hg nc) (hM : jCi l G yX4_reachesTooFar cX4_reachesTooFar 3 h' (some .boolean) (.ref 1 :: [.int y1, .int y0]) mu Qc) (hh : h' < hg ∧ 3 ≤ 21) (hn : n ≤ nc)
    (kk : ∀ v mu', Qc v mu' → J l G X Q 4 9 [.ref 1, .int x1, .float 0, .float 0] (.int v :: []) mu' n) :
    J l G X Q 4 6 [.ref 1, .int x1, .float 0, .float 0] [.int y0, .int y1, .ref 1] mu n :=
  J_callVi (As := [.int y1, .int y0]) (rest := []) h dX4_skipsIntoEach_6 hM (jgV w402 w404 w3 w77 w405) rfl (ci := 4) rfl rfl nmX4_reachesTooFar rfl hh (Nat.le_of_ble_eq_true rfl) rfl kk hn
theorem rX4_skipsIntoEach_9 {l : Launch} {G : jG} {X : jX} {Q : State → Prop} {n hg nc : Nat} {ret : Option FieldType} {mu : jM} {x1 : Int32} {y0 : Int32} (h : jOk l G X cX4_skipsIntoEach 4 ret RX4 hg nc) (s2 : y0 = 0 → vp_in x1 64)
    (k3 : y0 = 0 → J l G X Q 4 29 [.ref 1, .int x1, .int ((x1 + 1) + (mu 4 (x1).toNatClampNeg)), .int (x1 + 1)] [] mu n)
    (k4 : ¬ y0 = 0 → J l G X Q 4 13 [.ref 1, .int x1, .float 0, .float 0] [.int 0] mu n) :
    J l G X Q 4 9 [.ref 1, .int x1, .float 0, .float 0] [.int y0] mu n := by
  refine J_if_eq (tgt := 14) h dX4_skipsIntoEach_9 (by decide) (fun q1 => ?_) (fun q1 => ?_)
  · skip
    refine J_iload_n h dX4_skipsIntoEach_14 rfl rfl ?_
    refine J_iconst h dX4_skipsIntoEach_15 ci_1 ?_
    refine J_iadd h dX4_skipsIntoEach_16 ?_
    refine J_aload_n h dX4_skipsIntoEach_17 rfl rfl ?_
    refine J_getr (k := 2) h dX4_skipsIntoEach_18 jc4 rfl rfl (by decide) w115 ?_
    refine J_iload_n h dX4_skipsIntoEach_21 rfl rfl ?_
    refine J_iald h dX4_skipsIntoEach_22 rfl (s2 q1) ?_
    refine J_iadd h dX4_skipsIntoEach_23 ?_
    refine J_istore_n h dX4_skipsIntoEach_24 rfl (by decide) rfl ?_
    show J l G X Q 4 25 [.ref 1, .int x1, .int ((x1 + 1) + (mu 4 (x1).toNatClampNeg)), .float 0] [] mu n
    refine J_iload_n h dX4_skipsIntoEach_25 rfl rfl ?_
    refine J_iconst h dX4_skipsIntoEach_26 ci_1 ?_
    refine J_iadd h dX4_skipsIntoEach_27 ?_
    refine J_istore_n h dX4_skipsIntoEach_28 rfl (by decide) rfl ?_
    show J l G X Q 4 29 [.ref 1, .int x1, .int ((x1 + 1) + (mu 4 (x1).toNatClampNeg)), .int (x1 + 1)] [] mu n
    exact k3 q1
  · skip
    refine J_iconst h dX4_skipsIntoEach_12 ci_0 ?_
    exact k4 q1
theorem rX4_skipsIntoEach_29 {l : Launch} {G : jG} {X : jX} {Q : State → Prop} {n hg nc : Nat} {ret : Option FieldType} {mu : jM} {x1 : Int32} {x2 : Int32} {x3 : Int32} (h : jOk l G X cX4_skipsIntoEach 4 ret RX4 hg nc) (s3 : ¬ x2 ≤ x3 → vp_in x3 64) (s6 : ¬ x2 ≤ x3 → (mu 2 (x3).toNatClampNeg) = 15 → vp_in x3 64)
    (k2 : x2 ≤ x3 → J l G X Q 4 66 [.ref 1, .int x1, .int x2, .int x3] [.int 0] mu n)
    (k5 : ¬ x2 ≤ x3 → ¬ (mu 2 (x3).toNatClampNeg) = 15 → J l G X Q 4 59 [.ref 1, .int x1, .int x2, .int x3] [] mu n)
    (k8 : ¬ x2 ≤ x3 → (mu 2 (x3).toNatClampNeg) = 15 → (mu 4 (x3).toNatClampNeg) < (x2 - x3) → J l G X Q 4 59 [.ref 1, .int x1, .int x2, .int x3] [] mu n)
    (k9 : ¬ x2 ≤ x3 → (mu 2 (x3).toNatClampNeg) = 15 → ¬ (mu 4 (x3).toNatClampNeg) < (x2 - x3) → J l G X Q 4 58 [.ref 1, .int x1, .int x2, .int x3] [.int 1] mu n) :
    J l G X Q 4 29 [.ref 1, .int x1, .int x2, .int x3] [] mu n := by
  refine J_iload_n h dX4_skipsIntoEach_29 rfl rfl ?_
  refine J_iload_n h dX4_skipsIntoEach_30 rfl rfl ?_
  refine J_icmp_ge (tgt := 65) h dX4_skipsIntoEach_31 (by decide) (fun q1 => ?_) (fun q1 => ?_)
  · skip
    refine J_iconst h dX4_skipsIntoEach_65 ci_0 ?_
    exact k2 q1
  · skip
    refine J_aload_n h dX4_skipsIntoEach_34 rfl rfl ?_
    refine J_getr (k := 0) h dX4_skipsIntoEach_35 jc4 rfl rfl (by decide) w111 ?_
    refine J_iload_n h dX4_skipsIntoEach_38 rfl rfl ?_
    refine J_iald h dX4_skipsIntoEach_39 rfl (s3 q1) ?_
    refine J_bipush h dX4_skipsIntoEach_40 cb_15 ?_
    refine J_icmp_ne (tgt := 59) h dX4_skipsIntoEach_42 (by decide) (fun q4 => ?_) (fun q4 => ?_)
    · skip
      exact k5 q1 q4
    · skip
      refine J_aload_n h dX4_skipsIntoEach_45 rfl rfl ?_
      refine J_getr (k := 2) h dX4_skipsIntoEach_46 jc4 rfl rfl (by decide) w115 ?_
      refine J_iload_n h dX4_skipsIntoEach_49 rfl rfl ?_
      refine J_iald h dX4_skipsIntoEach_50 rfl (s6 q1 q4) ?_
      refine J_iload_n h dX4_skipsIntoEach_51 rfl rfl ?_
      refine J_iload_n h dX4_skipsIntoEach_52 rfl rfl ?_
      refine J_isub h dX4_skipsIntoEach_53 ?_
      refine J_icmp_lt (tgt := 59) h dX4_skipsIntoEach_54 (by decide) (fun q7 => ?_) (fun q7 => ?_)
      · skip
        exact k8 q1 q4 q7
      · skip
        refine J_iconst h dX4_skipsIntoEach_57 ci_1 ?_
        exact k9 q1 q4 q7
theorem rX4_skipsIntoEach_59 {l : Launch} {G : jG} {X : jX} {Q : State → Prop} {n hg nc : Nat} {ret : Option FieldType} {mu : jM} {x1 : Int32} {x2 : Int32} {x3 : Int32} (h : jOk l G X cX4_skipsIntoEach 4 ret RX4 hg nc)
    (k1 : J l G X Q 4 29 [.ref 1, .int x1, .int x2, .int (x3 + 1)] [] mu n) :
    J l G X Q 4 59 [.ref 1, .int x1, .int x2, .int x3] [] mu n := by
  refine J_iinc h dX4_skipsIntoEach_59 rfl (cc_1 _) (by decide) rfl ?_
  show J l G X Q 4 62 [.ref 1, .int x1, .int x2, .int (x3 + 1)] [] mu n
  refine J_goto (tgt := 29) h dX4_skipsIntoEach_62 (by decide) ?_
  exact k1
