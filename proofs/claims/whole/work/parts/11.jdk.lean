/-! java/lang/Integer.bitCount(I)I -/
theorem rJ6_bitCount_0f7a4_0 {l : Launch} {G : jG} {X : jX} {Q : State → Prop} {n hg nc : Nat} {ret : Option FieldType} {mu : jM} {x0 : Int32} (h : jOk l G X cJ6_bitCount_0f7a4 1 ret RJ6 hg nc)
    (k1 : J l G X Q 1 52 [.int (((((((x0 - (((Int32.toUInt32 x0 >>> (Int32.toUInt32 1 &&& Int32.toUInt32 31)).toInt32) &&& 1431655765)) &&& 858993459) + (((Int32.toUInt32 (x0 - (((Int32.toUInt32 x0 >>> (Int32.toUInt32 1 &&& Int32.toUInt32 31)).toInt32) &&& 1431655765)) >>> (Int32.toUInt32 2 &&& Int32.toUInt32 31)).toInt32) &&& 858993459)) + ((Int32.toUInt32 (((x0 - (((Int32.toUInt32 x0 >>> (Int32.toUInt32 1 &&& Int32.toUInt32 31)).toInt32) &&& 1431655765)) &&& 858993459) + (((Int32.toUInt32 (x0 - (((Int32.toUInt32 x0 >>> (Int32.toUInt32 1 &&& Int32.toUInt32 31)).toInt32) &&& 1431655765)) >>> (Int32.toUInt32 2 &&& Int32.toUInt32 31)).toInt32) &&& 858993459)) >>> (Int32.toUInt32 4 &&& Int32.toUInt32 31)).toInt32)) &&& 252645135) + ((Int32.toUInt32 (((((x0 - (((Int32.toUInt32 x0 >>> (Int32.toUInt32 1 &&& Int32.toUInt32 31)).toInt32) &&& 1431655765)) &&& 858993459) + (((Int32.toUInt32 (x0 - (((Int32.toUInt32 x0 >>> (Int32.toUInt32 1 &&& Int32.toUInt32 31)).toInt32) &&& 1431655765)) >>> (Int32.toUInt32 2 &&& Int32.toUInt32 31)).toInt32) &&& 858993459)) + ((Int32.toUInt32 (((x0 - (((Int32.toUInt32 x0 >>> (Int32.toUInt32 1 &&& Int32.toUInt32 31)).toInt32) &&& 1431655765)) &&& 858993459) + (((Int32.toUInt32 (x0 - (((Int32.toUInt32 x0 >>> (Int32.toUInt32 1 &&& Int32.toUInt32 31)).toInt32) &&& 1431655765)) >>> (Int32.toUInt32 2 &&& Int32.toUInt32 31)).toInt32) &&& 858993459)) >>> (Int32.toUInt32 4 &&& Int32.toUInt32 31)).toInt32)) &&& 252645135) >>> (Int32.toUInt32 8 &&& Int32.toUInt32 31)).toInt32)) + ((Int32.toUInt32 ((((((x0 - (((Int32.toUInt32 x0 >>> (Int32.toUInt32 1 &&& Int32.toUInt32 31)).toInt32) &&& 1431655765)) &&& 858993459) + (((Int32.toUInt32 (x0 - (((Int32.toUInt32 x0 >>> (Int32.toUInt32 1 &&& Int32.toUInt32 31)).toInt32) &&& 1431655765)) >>> (Int32.toUInt32 2 &&& Int32.toUInt32 31)).toInt32) &&& 858993459)) + ((Int32.toUInt32 (((x0 - (((Int32.toUInt32 x0 >>> (Int32.toUInt32 1 &&& Int32.toUInt32 31)).toInt32) &&& 1431655765)) &&& 858993459) + (((Int32.toUInt32 (x0 - (((Int32.toUInt32 x0 >>> (Int32.toUInt32 1 &&& Int32.toUInt32 31)).toInt32) &&& 1431655765)) >>> (Int32.toUInt32 2 &&& Int32.toUInt32 31)).toInt32) &&& 858993459)) >>> (Int32.toUInt32 4 &&& Int32.toUInt32 31)).toInt32)) &&& 252645135) + ((Int32.toUInt32 (((((x0 - (((Int32.toUInt32 x0 >>> (Int32.toUInt32 1 &&& Int32.toUInt32 31)).toInt32) &&& 1431655765)) &&& 858993459) + (((Int32.toUInt32 (x0 - (((Int32.toUInt32 x0 >>> (Int32.toUInt32 1 &&& Int32.toUInt32 31)).toInt32) &&& 1431655765)) >>> (Int32.toUInt32 2 &&& Int32.toUInt32 31)).toInt32) &&& 858993459)) + ((Int32.toUInt32 (((x0 - (((Int32.toUInt32 x0 >>> (Int32.toUInt32 1 &&& Int32.toUInt32 31)).toInt32) &&& 1431655765)) &&& 858993459) + (((Int32.toUInt32 (x0 - (((Int32.toUInt32 x0 >>> (Int32.toUInt32 1 &&& Int32.toUInt32 31)).toInt32) &&& 1431655765)) >>> (Int32.toUInt32 2 &&& Int32.toUInt32 31)).toInt32) &&& 858993459)) >>> (Int32.toUInt32 4 &&& Int32.toUInt32 31)).toInt32)) &&& 252645135) >>> (Int32.toUInt32 8 &&& Int32.toUInt32 31)).toInt32)) >>> (Int32.toUInt32 16 &&& Int32.toUInt32 31)).toInt32))] [.int ((((((((x0 - (((Int32.toUInt32 x0 >>> (Int32.toUInt32 1 &&& Int32.toUInt32 31)).toInt32) &&& 1431655765)) &&& 858993459) + (((Int32.toUInt32 (x0 - (((Int32.toUInt32 x0 >>> (Int32.toUInt32 1 &&& Int32.toUInt32 31)).toInt32) &&& 1431655765)) >>> (Int32.toUInt32 2 &&& Int32.toUInt32 31)).toInt32) &&& 858993459)) + ((Int32.toUInt32 (((x0 - (((Int32.toUInt32 x0 >>> (Int32.toUInt32 1 &&& Int32.toUInt32 31)).toInt32) &&& 1431655765)) &&& 858993459) + (((Int32.toUInt32 (x0 - (((Int32.toUInt32 x0 >>> (Int32.toUInt32 1 &&& Int32.toUInt32 31)).toInt32) &&& 1431655765)) >>> (Int32.toUInt32 2 &&& Int32.toUInt32 31)).toInt32) &&& 858993459)) >>> (Int32.toUInt32 4 &&& Int32.toUInt32 31)).toInt32)) &&& 252645135) + ((Int32.toUInt32 (((((x0 - (((Int32.toUInt32 x0 >>> (Int32.toUInt32 1 &&& Int32.toUInt32 31)).toInt32) &&& 1431655765)) &&& 858993459) + (((Int32.toUInt32 (x0 - (((Int32.toUInt32 x0 >>> (Int32.toUInt32 1 &&& Int32.toUInt32 31)).toInt32) &&& 1431655765)) >>> (Int32.toUInt32 2 &&& Int32.toUInt32 31)).toInt32) &&& 858993459)) + ((Int32.toUInt32 (((x0 - (((Int32.toUInt32 x0 >>> (Int32.toUInt32 1 &&& Int32.toUInt32 31)).toInt32) &&& 1431655765)) &&& 858993459) + (((Int32.toUInt32 (x0 - (((Int32.toUInt32 x0 >>> (Int32.toUInt32 1 &&& Int32.toUInt32 31)).toInt32) &&& 1431655765)) >>> (Int32.toUInt32 2 &&& Int32.toUInt32 31)).toInt32) &&& 858993459)) >>> (Int32.toUInt32 4 &&& Int32.toUInt32 31)).toInt32)) &&& 252645135) >>> (Int32.toUInt32 8 &&& Int32.toUInt32 31)).toInt32)) + ((Int32.toUInt32 ((((((x0 - (((Int32.toUInt32 x0 >>> (Int32.toUInt32 1 &&& Int32.toUInt32 31)).toInt32) &&& 1431655765)) &&& 858993459) + (((Int32.toUInt32 (x0 - (((Int32.toUInt32 x0 >>> (Int32.toUInt32 1 &&& Int32.toUInt32 31)).toInt32) &&& 1431655765)) >>> (Int32.toUInt32 2 &&& Int32.toUInt32 31)).toInt32) &&& 858993459)) + ((Int32.toUInt32 (((x0 - (((Int32.toUInt32 x0 >>> (Int32.toUInt32 1 &&& Int32.toUInt32 31)).toInt32) &&& 1431655765)) &&& 858993459) + (((Int32.toUInt32 (x0 - (((Int32.toUInt32 x0 >>> (Int32.toUInt32 1 &&& Int32.toUInt32 31)).toInt32) &&& 1431655765)) >>> (Int32.toUInt32 2 &&& Int32.toUInt32 31)).toInt32) &&& 858993459)) >>> (Int32.toUInt32 4 &&& Int32.toUInt32 31)).toInt32)) &&& 252645135) + ((Int32.toUInt32 (((((x0 - (((Int32.toUInt32 x0 >>> (Int32.toUInt32 1 &&& Int32.toUInt32 31)).toInt32) &&& 1431655765)) &&& 858993459) + (((Int32.toUInt32 (x0 - (((Int32.toUInt32 x0 >>> (Int32.toUInt32 1 &&& Int32.toUInt32 31)).toInt32) &&& 1431655765)) >>> (Int32.toUInt32 2 &&& Int32.toUInt32 31)).toInt32) &&& 858993459)) + ((Int32.toUInt32 (((x0 - (((Int32.toUInt32 x0 >>> (Int32.toUInt32 1 &&& Int32.toUInt32 31)).toInt32) &&& 1431655765)) &&& 858993459) + (((Int32.toUInt32 (x0 - (((Int32.toUInt32 x0 >>> (Int32.toUInt32 1 &&& Int32.toUInt32 31)).toInt32) &&& 1431655765)) >>> (Int32.toUInt32 2 &&& Int32.toUInt32 31)).toInt32) &&& 858993459)) >>> (Int32.toUInt32 4 &&& Int32.toUInt32 31)).toInt32)) &&& 252645135) >>> (Int32.toUInt32 8 &&& Int32.toUInt32 31)).toInt32)) >>> (Int32.toUInt32 16 &&& Int32.toUInt32 31)).toInt32)) &&& 63)] mu n) :
    J l G X Q 1 0 [.int x0] [] mu n := by
  refine J_iload_n h dJ6_bitCount_0f7a4_0 rfl rfl ?_
  refine J_iload_n h dJ6_bitCount_0f7a4_1 rfl rfl ?_
  refine J_iconst h dJ6_bitCount_0f7a4_2 ci_1 ?_
  refine J_iushr h dJ6_bitCount_0f7a4_3 ?_
  refine J_ldc_w h dJ6_bitCount_0f7a4_4 w692 ?_
  refine J_iand h dJ6_bitCount_0f7a4_7 ?_
  refine J_isub h dJ6_bitCount_0f7a4_8 ?_
  refine J_istore_n h dJ6_bitCount_0f7a4_9 rfl (by decide) rfl ?_
  show J l G X Q 1 10 [.int (x0 - (((Int32.toUInt32 x0 >>> (Int32.toUInt32 1 &&& Int32.toUInt32 31)).toInt32) &&& 1431655765))] [] mu n
  refine J_iload_n h dJ6_bitCount_0f7a4_10 rfl rfl ?_
  refine J_ldc_w h dJ6_bitCount_0f7a4_11 w693 ?_
  refine J_iand h dJ6_bitCount_0f7a4_14 ?_
  refine J_iload_n h dJ6_bitCount_0f7a4_15 rfl rfl ?_
  refine J_iconst h dJ6_bitCount_0f7a4_16 ci_2 ?_
  refine J_iushr h dJ6_bitCount_0f7a4_17 ?_
  refine J_ldc_w h dJ6_bitCount_0f7a4_18 w693 ?_
  refine J_iand h dJ6_bitCount_0f7a4_21 ?_
  refine J_iadd h dJ6_bitCount_0f7a4_22 ?_
  refine J_istore_n h dJ6_bitCount_0f7a4_23 rfl (by decide) rfl ?_
  show J l G X Q 1 24 [.int (((x0 - (((Int32.toUInt32 x0 >>> (Int32.toUInt32 1 &&& Int32.toUInt32 31)).toInt32) &&& 1431655765)) &&& 858993459) + (((Int32.toUInt32 (x0 - (((Int32.toUInt32 x0 >>> (Int32.toUInt32 1 &&& Int32.toUInt32 31)).toInt32) &&& 1431655765)) >>> (Int32.toUInt32 2 &&& Int32.toUInt32 31)).toInt32) &&& 858993459))] [] mu n
  refine J_iload_n h dJ6_bitCount_0f7a4_24 rfl rfl ?_
  refine J_iload_n h dJ6_bitCount_0f7a4_25 rfl rfl ?_
  refine J_iconst h dJ6_bitCount_0f7a4_26 ci_4 ?_
  refine J_iushr h dJ6_bitCount_0f7a4_27 ?_
  refine J_iadd h dJ6_bitCount_0f7a4_28 ?_
  refine J_ldc_w h dJ6_bitCount_0f7a4_29 w694 ?_
  refine J_iand h dJ6_bitCount_0f7a4_32 ?_
  refine J_istore_n h dJ6_bitCount_0f7a4_33 rfl (by decide) rfl ?_
  show J l G X Q 1 34 [.int (((((x0 - (((Int32.toUInt32 x0 >>> (Int32.toUInt32 1 &&& Int32.toUInt32 31)).toInt32) &&& 1431655765)) &&& 858993459) + (((Int32.toUInt32 (x0 - (((Int32.toUInt32 x0 >>> (Int32.toUInt32 1 &&& Int32.toUInt32 31)).toInt32) &&& 1431655765)) >>> (Int32.toUInt32 2 &&& Int32.toUInt32 31)).toInt32) &&& 858993459)) + ((Int32.toUInt32 (((x0 - (((Int32.toUInt32 x0 >>> (Int32.toUInt32 1 &&& Int32.toUInt32 31)).toInt32) &&& 1431655765)) &&& 858993459) + (((Int32.toUInt32 (x0 - (((Int32.toUInt32 x0 >>> (Int32.toUInt32 1 &&& Int32.toUInt32 31)).toInt32) &&& 1431655765)) >>> (Int32.toUInt32 2 &&& Int32.toUInt32 31)).toInt32) &&& 858993459)) >>> (Int32.toUInt32 4 &&& Int32.toUInt32 31)).toInt32)) &&& 252645135)] [] mu n
  refine J_iload_n h dJ6_bitCount_0f7a4_34 rfl rfl ?_
  refine J_iload_n h dJ6_bitCount_0f7a4_35 rfl rfl ?_
  refine J_bipush h dJ6_bitCount_0f7a4_36 cb_8 ?_
  refine J_iushr h dJ6_bitCount_0f7a4_38 ?_
  refine J_iadd h dJ6_bitCount_0f7a4_39 ?_
  refine J_istore_n h dJ6_bitCount_0f7a4_40 rfl (by decide) rfl ?_
  show J l G X Q 1 41 [.int ((((((x0 - (((Int32.toUInt32 x0 >>> (Int32.toUInt32 1 &&& Int32.toUInt32 31)).toInt32) &&& 1431655765)) &&& 858993459) + (((Int32.toUInt32 (x0 - (((Int32.toUInt32 x0 >>> (Int32.toUInt32 1 &&& Int32.toUInt32 31)).toInt32) &&& 1431655765)) >>> (Int32.toUInt32 2 &&& Int32.toUInt32 31)).toInt32) &&& 858993459)) + ((Int32.toUInt32 (((x0 - (((Int32.toUInt32 x0 >>> (Int32.toUInt32 1 &&& Int32.toUInt32 31)).toInt32) &&& 1431655765)) &&& 858993459) + (((Int32.toUInt32 (x0 - (((Int32.toUInt32 x0 >>> (Int32.toUInt32 1 &&& Int32.toUInt32 31)).toInt32) &&& 1431655765)) >>> (Int32.toUInt32 2 &&& Int32.toUInt32 31)).toInt32) &&& 858993459)) >>> (Int32.toUInt32 4 &&& Int32.toUInt32 31)).toInt32)) &&& 252645135) + ((Int32.toUInt32 (((((x0 - (((Int32.toUInt32 x0 >>> (Int32.toUInt32 1 &&& Int32.toUInt32 31)).toInt32) &&& 1431655765)) &&& 858993459) + (((Int32.toUInt32 (x0 - (((Int32.toUInt32 x0 >>> (Int32.toUInt32 1 &&& Int32.toUInt32 31)).toInt32) &&& 1431655765)) >>> (Int32.toUInt32 2 &&& Int32.toUInt32 31)).toInt32) &&& 858993459)) + ((Int32.toUInt32 (((x0 - (((Int32.toUInt32 x0 >>> (Int32.toUInt32 1 &&& Int32.toUInt32 31)).toInt32) &&& 1431655765)) &&& 858993459) + (((Int32.toUInt32 (x0 - (((Int32.toUInt32 x0 >>> (Int32.toUInt32 1 &&& Int32.toUInt32 31)).toInt32) &&& 1431655765)) >>> (Int32.toUInt32 2 &&& Int32.toUInt32 31)).toInt32) &&& 858993459)) >>> (Int32.toUInt32 4 &&& Int32.toUInt32 31)).toInt32)) &&& 252645135) >>> (Int32.toUInt32 8 &&& Int32.toUInt32 31)).toInt32))] [] mu n
  refine J_iload_n h dJ6_bitCount_0f7a4_41 rfl rfl ?_
  refine J_iload_n h dJ6_bitCount_0f7a4_42 rfl rfl ?_
  refine J_bipush h dJ6_bitCount_0f7a4_43 cb_16 ?_
  refine J_iushr h dJ6_bitCount_0f7a4_45 ?_
  refine J_iadd h dJ6_bitCount_0f7a4_46 ?_
  refine J_istore_n h dJ6_bitCount_0f7a4_47 rfl (by decide) rfl ?_
  show J l G X Q 1 48 [.int (((((((x0 - (((Int32.toUInt32 x0 >>> (Int32.toUInt32 1 &&& Int32.toUInt32 31)).toInt32) &&& 1431655765)) &&& 858993459) + (((Int32.toUInt32 (x0 - (((Int32.toUInt32 x0 >>> (Int32.toUInt32 1 &&& Int32.toUInt32 31)).toInt32) &&& 1431655765)) >>> (Int32.toUInt32 2 &&& Int32.toUInt32 31)).toInt32) &&& 858993459)) + ((Int32.toUInt32 (((x0 - (((Int32.toUInt32 x0 >>> (Int32.toUInt32 1 &&& Int32.toUInt32 31)).toInt32) &&& 1431655765)) &&& 858993459) + (((Int32.toUInt32 (x0 - (((Int32.toUInt32 x0 >>> (Int32.toUInt32 1 &&& Int32.toUInt32 31)).toInt32) &&& 1431655765)) >>> (Int32.toUInt32 2 &&& Int32.toUInt32 31)).toInt32) &&& 858993459)) >>> (Int32.toUInt32 4 &&& Int32.toUInt32 31)).toInt32)) &&& 252645135) + ((Int32.toUInt32 (((((x0 - (((Int32.toUInt32 x0 >>> (Int32.toUInt32 1 &&& Int32.toUInt32 31)).toInt32) &&& 1431655765)) &&& 858993459) + (((Int32.toUInt32 (x0 - (((Int32.toUInt32 x0 >>> (Int32.toUInt32 1 &&& Int32.toUInt32 31)).toInt32) &&& 1431655765)) >>> (Int32.toUInt32 2 &&& Int32.toUInt32 31)).toInt32) &&& 858993459)) + ((Int32.toUInt32 (((x0 - (((Int32.toUInt32 x0 >>> (Int32.toUInt32 1 &&& Int32.toUInt32 31)).toInt32) &&& 1431655765)) &&& 858993459) + (((Int32.toUInt32 (x0 - (((Int32.toUInt32 x0 >>> (Int32.toUInt32 1 &&& Int32.toUInt32 31)).toInt32) &&& 1431655765)) >>> (Int32.toUInt32 2 &&& Int32.toUInt32 31)).toInt32) &&& 858993459)) >>> (Int32.toUInt32 4 &&& Int32.toUInt32 31)).toInt32)) &&& 252645135) >>> (Int32.toUInt32 8 &&& Int32.toUInt32 31)).toInt32)) + ((Int32.toUInt32 ((((((x0 - (((Int32.toUInt32 x0 >>> (Int32.toUInt32 1 &&& Int32.toUInt32 31)).toInt32) &&& 1431655765)) &&& 858993459) + (((Int32.toUInt32 (x0 - (((Int32.toUInt32 x0 >>> (Int32.toUInt32 1 &&& Int32.toUInt32 31)).toInt32) &&& 1431655765)) >>> (Int32.toUInt32 2 &&& Int32.toUInt32 31)).toInt32) &&& 858993459)) + ((Int32.toUInt32 (((x0 - (((Int32.toUInt32 x0 >>> (Int32.toUInt32 1 &&& Int32.toUInt32 31)).toInt32) &&& 1431655765)) &&& 858993459) + (((Int32.toUInt32 (x0 - (((Int32.toUInt32 x0 >>> (Int32.toUInt32 1 &&& Int32.toUInt32 31)).toInt32) &&& 1431655765)) >>> (Int32.toUInt32 2 &&& Int32.toUInt32 31)).toInt32) &&& 858993459)) >>> (Int32.toUInt32 4 &&& Int32.toUInt32 31)).toInt32)) &&& 252645135) + ((Int32.toUInt32 (((((x0 - (((Int32.toUInt32 x0 >>> (Int32.toUInt32 1 &&& Int32.toUInt32 31)).toInt32) &&& 1431655765)) &&& 858993459) + (((Int32.toUInt32 (x0 - (((Int32.toUInt32 x0 >>> (Int32.toUInt32 1 &&& Int32.toUInt32 31)).toInt32) &&& 1431655765)) >>> (Int32.toUInt32 2 &&& Int32.toUInt32 31)).toInt32) &&& 858993459)) + ((Int32.toUInt32 (((x0 - (((Int32.toUInt32 x0 >>> (Int32.toUInt32 1 &&& Int32.toUInt32 31)).toInt32) &&& 1431655765)) &&& 858993459) + (((Int32.toUInt32 (x0 - (((Int32.toUInt32 x0 >>> (Int32.toUInt32 1 &&& Int32.toUInt32 31)).toInt32) &&& 1431655765)) >>> (Int32.toUInt32 2 &&& Int32.toUInt32 31)).toInt32) &&& 858993459)) >>> (Int32.toUInt32 4 &&& Int32.toUInt32 31)).toInt32)) &&& 252645135) >>> (Int32.toUInt32 8 &&& Int32.toUInt32 31)).toInt32)) >>> (Int32.toUInt32 16 &&& Int32.toUInt32 31)).toInt32))] [] mu n
  refine J_iload_n h dJ6_bitCount_0f7a4_48 rfl rfl ?_
  refine J_bipush h dJ6_bitCount_0f7a4_49 cb_63 ?_
  refine J_iand h dJ6_bitCount_0f7a4_51 ?_
  exact k1
/-! java/lang/Math.max(II)I -/
theorem rJ9_max_7cf53_0 {l : Launch} {G : jG} {X : jX} {Q : State → Prop} {n hg nc : Nat} {ret : Option FieldType} {mu : jM} {x0 : Int32} {x1 : Int32} (h : jOk l G X cJ9_max_7cf53 2 ret RJ9 hg nc)
    (k2 : x0 < x1 → J l G X Q 2 10 [.int x0, .int x1] [.int x1] mu n)
    (k3 : ¬ x0 < x1 → J l G X Q 2 10 [.int x0, .int x1] [.int x0] mu n) :
    J l G X Q 2 0 [.int x0, .int x1] [] mu n := by
  refine J_iload_n h dJ9_max_7cf53_0 rfl rfl ?_
  refine J_iload_n h dJ9_max_7cf53_1 rfl rfl ?_
  refine J_icmp_lt (tgt := 9) h dJ9_max_7cf53_2 (by decide) (fun q1 => ?_) (fun q1 => ?_)
  · skip
    refine J_iload_n h dJ9_max_7cf53_9 rfl rfl ?_
    exact k2 q1
  · skip
    refine J_iload_n h dJ9_max_7cf53_5 rfl rfl ?_
    refine J_goto (tgt := 10) h dJ9_max_7cf53_6 (by decide) ?_
    exact k3 q1
/-! java/util/Arrays.fill([II)V -/
theorem rJ7_fill_53178_0 {l : Launch} {G : jG} {X : jX} {Q : State → Prop} {n hg nc : Nat} {ret : Option FieldType} {mu : jM} {x1 : Int32} {a0 N0 : Nat} {rf_a0 : Nat → Option Nat} (h : jOk l G X cJ7_fill_53178 4 ret RJ7 hg nc) (h_a0 : jShp[a0]? = some (.inr (0, N0, rf_a0)))
    (k1 : J l G X Q 4 5 [.ref a0, .int x1, .int 0, .int (Int32.ofNat N0)] [] mu n) :
    J l G X Q 4 0 [.ref a0, .int x1, .float 0, .float 0] [] mu n := by
  refine J_iconst h dJ7_fill_53178_0 ci_0 ?_
  refine J_istore_n h dJ7_fill_53178_1 rfl (by decide) rfl ?_
  show J l G X Q 4 2 [.ref a0, .int x1, .int 0, .float 0] [] mu n
  refine J_aload_n h dJ7_fill_53178_2 rfl rfl ?_
  refine J_alen h dJ7_fill_53178_3 h_a0 rfl ?_
  refine J_istore_n h dJ7_fill_53178_4 rfl (by decide) rfl ?_
  show J l G X Q 4 5 [.ref a0, .int x1, .int 0, .int (Int32.ofNat N0)] [] mu n
  exact k1
theorem rJ7_fill_53178_5 {l : Launch} {G : jG} {X : jX} {Q : State → Prop} {n hg nc : Nat} {ret : Option FieldType} {mu : jM} {x1 : Int32} {x2 : Int32} {x3 : Int32} {a0 N0 : Nat} {rf_a0 : Nat → Option Nat} (h : jOk l G X cJ7_fill_53178 4 ret RJ7 hg nc) (h_a0 : jShp[a0]? = some (.inr (0, N0, rf_a0))) (s3 : ¬ x3 ≤ x2 → vp_in x2 N0)
    (k2 : x3 ≤ x2 → J l G X Q 4 20 [.ref a0, .int x1, .int x2, .int x3] [] mu n)
    (k4 : ¬ x3 ≤ x2 → J l G X Q 4 5 [.ref a0, .int x1, .int (x2 + 1), .int x3] [] (wr mu a0 (x2).toNatClampNeg x1) n) :
    J l G X Q 4 5 [.ref a0, .int x1, .int x2, .int x3] [] mu n := by
  refine J_iload_n h dJ7_fill_53178_5 rfl rfl ?_
  refine J_iload_n h dJ7_fill_53178_6 rfl rfl ?_
  refine J_icmp_ge (tgt := 20) h dJ7_fill_53178_7 (by decide) (fun q1 => ?_) (fun q1 => ?_)
  · skip
    exact k2 q1
  · skip
    refine J_aload_n h dJ7_fill_53178_10 rfl rfl ?_
    refine J_iload_n h dJ7_fill_53178_11 rfl rfl ?_
    refine J_iload_n h dJ7_fill_53178_12 rfl rfl ?_
    refine J_iast h dJ7_fill_53178_13 h_a0 (s3 q1) ?_
    refine J_iinc h dJ7_fill_53178_14 rfl (cc_1 _) (by decide) rfl ?_
    show J l G X Q 4 17 [.ref a0, .int x1, .int (x2 + 1), .int x3] [] (wr mu a0 (x2).toNatClampNeg x1) n
    refine J_goto (tgt := 5) h dJ7_fill_53178_17 (by decide) ?_
    exact k4 q1
