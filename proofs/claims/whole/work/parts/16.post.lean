/-! LockstepNet$Post.empty()V -/
theorem rX3_empty_0 {l : Launch} {G : jG} {X : jX} {Q : State → Prop} {n hg nc : Nat} {ret : Option FieldType} {mu : jM} (h : jOk l G X cX3_empty 1 ret RX3 hg nc)
    (k1 : J l G X Q 1 10 [.ref 25] [.int 0, .ref 32] (wr mu 25 2 0) n) :
    J l G X Q 1 0 [.ref 25] [] mu n := by
  refine J_aload_n h dX3_empty_0 rfl rfl ?_
  refine J_iconst h dX3_empty_1 ci_0 ?_
  refine J_puti (k := 2) (ty0 := tyX3) h dX3_empty_2 jc3 tyX3_ok nmX3 rfl rfl (by decide) rfl rfl rfl w236 ?_
  refine J_aload_n h dX3_empty_5 rfl rfl ?_
  refine J_getr (k := 1) h dX3_empty_6 jc3 rfl rfl (by decide) w234 ?_
  refine J_iconst h dX3_empty_9 ci_0 ?_
  exact k1
theorem rX3_empty_10 {l : Launch} {G : jG} {X : jX} {Q : State → Prop} {n hg nc : Nat} {ret : Option FieldType} {mu : jM} {y0 : Int32} {Qc : jM → Prop} {h' : Nat} (h : jOk l G X cX3_empty 1 ret RX3 hg nc) (hM : jCv l G yJ7_fill_53178 cJ7_fill_53178 4 h' [.ref 32, .int y0] mu Qc) (hh : h' < hg ∧ 4 ≤ 21) (hn : n ≤ nc)
    (kk : ∀ mu', Qc mu' → J l G X Q 1 13 [.ref 25] [] mu' n) :
    J l G X Q 1 10 [.ref 25] [.int y0, .ref 32] mu n :=
  J_callS (As := [.ref 32, .int y0]) (rest := []) h dX3_empty_10 hM (jgS w750 w514 w90 w515) nmJ7_fill_53178 rfl hh (Nat.le_of_ble_eq_true rfl) rfl kk hn
/-! LockstepNet$Post.send(IIIII)V -/
theorem rX3_send_0 {l : Launch} {G : jG} {X : jX} {Q : State → Prop} {n hg nc : Nat} {ret : Option FieldType} {mu : jM} {x1 : Int32} {x2 : Int32} {x3 : Int32} {x4 : Int32} {x5 : Int32} (h : jOk l G X cX3_send 6 ret RX3 hg nc) (s2 : (mu 25 2) < 512 → vp_in (mu 25 2) 512) (s3 : (mu 25 2) < 512 → vp_in (mu 25 2) 512) (s4 : (mu 25 2) < 512 → vp_in (mu 25 2) 512) (s5 : (mu 25 2) < 512 → vp_in (mu 25 2) 512) (s6 : (mu 25 2) < 512 → vp_in (mu 25 2) 512) (s10 : (mu 25 2) < 512 → ¬ 2 ≤ x1 → vp_in x1 3) (s11 : (mu 25 2) < 512 → ¬ 2 ≤ x1 → vp_in x1 3)
    (k9 : (mu 25 2) < 512 → 2 ≤ x1 → J l G X Q 6 102 [.ref 25, .int x1, .int x2, .int x3, .int x4, .int x5] [] (wr (wr (wr (wr (wr (wr (wr mu 27 ((mu 25 2)).toNatClampNeg x1) 28 ((mu 25 2)).toNatClampNeg x2) 29 ((mu 25 2)).toNatClampNeg x3) 30 ((mu 25 2)).toNatClampNeg x4) 31 ((mu 25 2)).toNatClampNeg x5) 25 2 ((mu 25 2) + 1)) 32 (2 : Int32).toNatClampNeg ((mu 32 (2 : Int32).toNatClampNeg) + 1)) n)
    (k12 : (mu 25 2) < 512 → ¬ 2 ≤ x1 → J l G X Q 6 102 [.ref 25, .int x1, .int x2, .int x3, .int x4, .int x5] [] (wr (wr (wr (wr (wr (wr (wr mu 27 ((mu 25 2)).toNatClampNeg x1) 28 ((mu 25 2)).toNatClampNeg x2) 29 ((mu 25 2)).toNatClampNeg x3) 30 ((mu 25 2)).toNatClampNeg x4) 31 ((mu 25 2)).toNatClampNeg x5) 25 2 ((mu 25 2) + 1)) 32 (x1).toNatClampNeg ((mu 32 (x1).toNatClampNeg) + 1)) n)
    (k13 : ¬ (mu 25 2) < 512 → J l G X Q 6 10 [.ref 25, .int x1, .int x2, .int x3, .int x4, .int x5] [] mu n) :
    J l G X Q 6 0 [.ref 25, .int x1, .int x2, .int x3, .int x4, .int x5] [] mu n := by
  refine J_aload_n h dX3_send_0 rfl rfl ?_
  refine J_geti (k := 2) h dX3_send_1 jc3 rfl rfl (by decide) w236 ?_
  refine J_sipush h dX3_send_4 cs_512 ?_
  refine J_icmp_lt (tgt := 11) h dX3_send_7 (by decide) (fun q1 => ?_) (fun q1 => ?_)
  · skip
    refine J_aload_n h dX3_send_11 rfl rfl ?_
    refine J_getr (k := 0) h dX3_send_12 jc3 rfl rfl (by decide) w231 ?_
    refine J_iconst h dX3_send_15 ci_0 ?_
    refine J_aald h dX3_send_16 rfl (jin (by decide)) rfl ?_
    refine J_aload_n h dX3_send_17 rfl rfl ?_
    refine J_geti (k := 2) h dX3_send_18 jc3 rfl rfl (by decide) w236 ?_
    refine J_iload_n h dX3_send_21 rfl rfl ?_
    refine J_iast h dX3_send_22 rfl (s2 q1) ?_
    refine J_aload_n h dX3_send_23 rfl rfl ?_
    refine J_getr (k := 0) h dX3_send_24 jc3 rfl rfl (by decide) w231 ?_
    refine J_iconst h dX3_send_27 ci_1 ?_
    refine J_aald h dX3_send_28 rfl (jin (by decide)) rfl ?_
    refine J_aload_n h dX3_send_29 rfl rfl ?_
    refine J_geti (k := 2) h dX3_send_30 jc3 rfl rfl (by decide) w236 ?_
    refine J_iload_n h dX3_send_33 rfl rfl ?_
    refine J_iast h dX3_send_34 rfl (s3 q1) ?_
    refine J_aload_n h dX3_send_35 rfl rfl ?_
    refine J_getr (k := 0) h dX3_send_36 jc3 rfl rfl (by decide) w231 ?_
    refine J_iconst h dX3_send_39 ci_2 ?_
    refine J_aald h dX3_send_40 rfl (jin (by decide)) rfl ?_
    refine J_aload_n h dX3_send_41 rfl rfl ?_
    refine J_geti (k := 2) h dX3_send_42 jc3 rfl rfl (by decide) w236 ?_
    refine J_iload_n h dX3_send_45 rfl rfl ?_
    refine J_iast h dX3_send_46 rfl (s4 q1) ?_
    refine J_aload_n h dX3_send_47 rfl rfl ?_
    refine J_getr (k := 0) h dX3_send_48 jc3 rfl rfl (by decide) w231 ?_
    refine J_iconst h dX3_send_51 ci_3 ?_
    refine J_aald h dX3_send_52 rfl (jin (by decide)) rfl ?_
    refine J_aload_n h dX3_send_53 rfl rfl ?_
    refine J_geti (k := 2) h dX3_send_54 jc3 rfl rfl (by decide) w236 ?_
    refine J_iload h dX3_send_57 rfl ?_
    refine J_iast h dX3_send_59 rfl (s5 q1) ?_
    refine J_aload_n h dX3_send_60 rfl rfl ?_
    refine J_getr (k := 0) h dX3_send_61 jc3 rfl rfl (by decide) w231 ?_
    refine J_iconst h dX3_send_64 ci_4 ?_
    refine J_aald h dX3_send_65 rfl (jin (by decide)) rfl ?_
    refine J_aload_n h dX3_send_66 rfl rfl ?_
    refine J_geti (k := 2) h dX3_send_67 jc3 rfl rfl (by decide) w236 ?_
    refine J_iload h dX3_send_70 rfl ?_
    refine J_iast h dX3_send_72 rfl (s6 q1) ?_
    refine J_aload_n h dX3_send_73 rfl rfl ?_
    refine J_dup h dX3_send_74 rfl ?_
    refine J_geti (k := 2) h dX3_send_75 jc3 rfl rfl (by decide) w236 ?_
    refine J_iconst h dX3_send_78 ci_1 ?_
    refine J_iadd h dX3_send_79 ?_
    refine J_puti (k := 2) (ty0 := tyX3) h dX3_send_80 jc3 tyX3_ok nmX3 rfl rfl (by decide) rfl rfl rfl w236 ?_
    refine J_aload_n h dX3_send_83 rfl rfl ?_
    refine J_getr (k := 1) h dX3_send_84 jc3 rfl rfl (by decide) w234 ?_
    refine J_iload_n h dX3_send_87 rfl rfl ?_
    refine J_iconst h dX3_send_88 ci_2 ?_
    refine J_icmp_ge (tgt := 96) h dX3_send_89 (by decide) (fun q7 => ?_) (fun q7 => ?_)
    · skip
      refine J_iconst h dX3_send_96 ci_2 ?_
      refine J_dup2 h dX3_send_97 rfl rfl ?_
      refine J_iald h dX3_send_98 rfl (jin (by decide)) ?_
      refine J_iconst h dX3_send_99 ci_1 ?_
      refine J_iadd h dX3_send_100 ?_
      refine J_iast h dX3_send_101 rfl (jin (by decide)) ?_
      exact k9 q1 q7
    · skip
      refine J_iload_n h dX3_send_92 rfl rfl ?_
      refine J_goto (tgt := 97) h dX3_send_93 (by decide) ?_
      refine J_dup2 h dX3_send_97 rfl rfl ?_
      refine J_iald h dX3_send_98 rfl (s10 q1 q7) ?_
      refine J_iconst h dX3_send_99 ci_1 ?_
      refine J_iadd h dX3_send_100 ?_
      refine J_iast h dX3_send_101 rfl (s11 q1 q7) ?_
      exact k12 q1 q7
  · skip
    exact k13 q1
/-! LockstepNet$Post.remove(I)V -/
theorem rX3_remove_0 {l : Launch} {G : jG} {X : jX} {Q : State → Prop} {n hg nc : Nat} {ret : Option FieldType} {mu : jM} {x1 : Int32} (h : jOk l G X cX3_remove 3 ret RX3 hg nc)
    (k1 : J l G X Q 3 12 [.ref 25, .int x1, .int 0] [] (wr mu 25 2 ((mu 25 2) - 1)) n) :
    J l G X Q 3 0 [.ref 25, .int x1, .float 0] [] mu n := by
  refine J_aload_n h dX3_remove_0 rfl rfl ?_
  refine J_dup h dX3_remove_1 rfl ?_
  refine J_geti (k := 2) h dX3_remove_2 jc3 rfl rfl (by decide) w236 ?_
  refine J_iconst h dX3_remove_5 ci_1 ?_
  refine J_isub h dX3_remove_6 ?_
  refine J_puti (k := 2) (ty0 := tyX3) h dX3_remove_7 jc3 tyX3_ok nmX3 rfl rfl (by decide) rfl rfl rfl w236 ?_
  refine J_iconst h dX3_remove_10 ci_0 ?_
  refine J_istore_n h dX3_remove_11 rfl (by decide) rfl ?_
  show J l G X Q 3 12 [.ref 25, .int x1, .int 0] [] (wr mu 25 2 ((mu 25 2) - 1)) n
  exact k1
theorem rX3_remove_12 {l : Launch} {G : jG} {X : jX} {Q : State → Prop} {n hg nc : Nat} {ret : Option FieldType} {mu : jM} {x1 : Int32} {x2 : Int32} {r3 : Nat} {r6 : Nat} (h : jOk l G X cX3_remove 3 ret RX3 hg nc) (s4 : ¬ 5 ≤ x2 → vp_in x2 5) (s5 : ¬ 5 ≤ x2 → [27, 28, 29, 30, 31][(x2).toNatClampNeg]? = some r3) (h_r3 : jShp[r3]? = some (.inr (0, 512, fun _ => none))) (s7 : ¬ 5 ≤ x2 → vp_in x2 5) (s8 : ¬ 5 ≤ x2 → [27, 28, 29, 30, 31][(x2).toNatClampNeg]? = some r6) (h_r6 : jShp[r6]? = some (.inr (0, 512, fun _ => none)))
    (k2 : 5 ≤ x2 → J l G X Q 3 48 [.ref 25, .int x1, .int x2] [] mu n)
    (k9 : ¬ 5 ≤ x2 → J l G X Q 3 39 [.ref 25, .int x1, .int x2] [.int ((mu 25 2) - x1), .int x1, .ref r6, .int (x1 + 1), .ref r3] mu n) :
    J l G X Q 3 12 [.ref 25, .int x1, .int x2] [] mu n := by
  refine J_iload_n h dX3_remove_12 rfl rfl ?_
  refine J_iconst h dX3_remove_13 ci_5 ?_
  refine J_icmp_ge (tgt := 48) h dX3_remove_14 (by decide) (fun q1 => ?_) (fun q1 => ?_)
  · skip
    exact k2 q1
  · skip
    refine J_aload_n h dX3_remove_17 rfl rfl ?_
    refine J_getr (k := 0) h dX3_remove_18 jc3 rfl rfl (by decide) w231 ?_
    refine J_iload_n h dX3_remove_21 rfl rfl ?_
    refine J_aald h dX3_remove_22 rfl (s4 q1) (s5 q1) ?_
    refine J_iload_n h dX3_remove_23 rfl rfl ?_
    refine J_iconst h dX3_remove_24 ci_1 ?_
    refine J_iadd h dX3_remove_25 ?_
    refine J_aload_n h dX3_remove_26 rfl rfl ?_
    refine J_getr (k := 0) h dX3_remove_27 jc3 rfl rfl (by decide) w231 ?_
    refine J_iload_n h dX3_remove_30 rfl rfl ?_
    refine J_aald h dX3_remove_31 rfl (s7 q1) (s8 q1) ?_
    refine J_iload_n h dX3_remove_32 rfl rfl ?_
    refine J_aload_n h dX3_remove_33 rfl rfl ?_
    refine J_geti (k := 2) h dX3_remove_34 jc3 rfl rfl (by decide) w236 ?_
    refine J_iload_n h dX3_remove_37 rfl rfl ?_
    refine J_isub h dX3_remove_38 ?_
    exact k9 q1
theorem rX3_remove_39 {l : Launch} {G : jG} {X : jX} {Q : State → Prop} {n hg nc : Nat} {ret : Option FieldType} {mu : jM} {x1 : Int32} {x2 : Int32} {y0 : Int32} {y1 : Int32} {y3 : Int32} {r6 : Nat} {r3 : Nat} (h : jOk l G X cX3_remove 3 ret RX3 hg nc) (h_r6 : jShp[r6]? = some (.inr (0, 512, fun _ => none))) (h_r3 : jShp[r3]? = some (.inr (0, 512, fun _ => none))) (h1 : ¬ y3 < 0) (h2 : ¬ y1 < 0) (h3 : ¬ y0 < 0) (h4 : (y3).toNatClampNeg + (y0).toNatClampNeg ≤ 512) (h5 : (y1).toNatClampNeg + (y0).toNatClampNeg ≤ 512) (hh : 1 ≤ hg)
    (kk : J l G X Q 3 42 [.ref 25, .int x1, .int x2] [] (jPut mu r6 (va_cpy (mu r3) (mu r6) (y3).toNatClampNeg (y1).toNatClampNeg (y0).toNatClampNeg)) n) :
    J l G X Q 3 39 [.ref 25, .int x1, .int x2] [.int y0, .int y1, .ref r6, .int y3, .ref r3] mu n :=
  J_copy h dX3_remove_39 w907 w523 w522 w91 h_r3 h_r6 h1 h2 h3 h4 h5 (Nat.le_of_ble_eq_true rfl) hh kk
theorem rX3_remove_42 {l : Launch} {G : jG} {X : jX} {Q : State → Prop} {n hg nc : Nat} {ret : Option FieldType} {mu : jM} {x1 : Int32} {x2 : Int32} (h : jOk l G X cX3_remove 3 ret RX3 hg nc)
    (k1 : J l G X Q 3 12 [.ref 25, .int x1, .int (x2 + 1)] [] mu n) :
    J l G X Q 3 42 [.ref 25, .int x1, .int x2] [] mu n := by
  refine J_iinc h dX3_remove_42 rfl (cc_1 _) (by decide) rfl ?_
  show J l G X Q 3 45 [.ref 25, .int x1, .int (x2 + 1)] [] mu n
  refine J_goto (tgt := 12) h dX3_remove_45 (by decide) ?_
  exact k1
