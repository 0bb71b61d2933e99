/-! ===== builtin: both sides ===== -/
theorem nL0 : (0 : Int32) = nI 0 := rfl
theorem nL1 : (1 : Int32) = nI 1 := rfl
theorem nL2 : (2 : Int32) = nI 2 := rfl
theorem nL3 : (3 : Int32) = nI 3 := rfl
theorem nL4 : (4 : Int32) = nI 4 := rfl
theorem nL5 : (5 : Int32) = nI 5 := rfl
theorem nL7 : (7 : Int32) = nI 7 := rfl
theorem nL8 : (8 : Int32) = nI 8 := rfl
theorem nL15 : (15 : Int32) = nI 15 := rfl
theorem nL16 : (16 : Int32) = nI 16 := rfl
theorem nL24 : (24 : Int32) = nI 24 := rfl
theorem nL48 : (48 : Int32) = nI 48 := rfl
theorem nL60 : (60 : Int32) = nI 60 := rfl
theorem nL64 : (64 : Int32) = nI 64 := rfl
theorem nL120 : (120 : Int32) = nI 120 := rfl
theorem nL192 : (192 : Int32) = nI 192 := rfl
theorem nL240 : (240 : Int32) = nI 240 := rfl
theorem nI_mul (a b : Nat) : nI a * nI b = nI (a * b) := (Int32.ofNat_mul a b).symm
/-! LockstepNet$Program.load(I)V -/
theorem rX4_load_4 {l : Launch} {G : jG} {X : jX} {Q : State → Prop} {n hg nc : Nat} {ret : Option FieldType} {mu : jM} {x1 : Int32} {k0 : Nat} (h : jOk l G X cX4_load 4 ret RX4 hg nc) (hst : k0 < 5)
    (k1 : J l G X Q 4 15 [.ref 1, .int x1, .ref (1000 + k0), .int 0] [] (wr mu 1 4 ((Int32.ofNat (jSl k0)) / 4)) n) :
    J l G X Q 4 4 [.ref 1, .int x1, .float 0, .float 0] [.ref (1000 + k0)] mu n := by
  refine J_astore_n h dX4_load_4 rfl (by decide) rfl ?_
  show J l G X Q 4 5 [.ref 1, .int x1, .ref (1000 + k0), .float 0] [] mu n
  refine J_aload_n h dX4_load_5 rfl rfl ?_
  refine J_aload_n h dX4_load_6 rfl rfl ?_
  refine J_slen h dX4_load_7 hst rfl ?_
  refine J_iconst h dX4_load_8 ci_4 ?_
  refine J_idiv h dX4_load_9 (by decide) ?_
  refine J_puti (k := 4) (ty0 := tyX4) h dX4_load_10 jc4 tyX4_ok nmX4 rfl rfl (by decide) rfl rfl rfl w119 ?_
  refine J_iconst h dX4_load_13 ci_0 ?_
  refine J_istore_n h dX4_load_14 rfl (by decide) rfl ?_
  show J l G X Q 4 15 [.ref 1, .int x1, .ref (1000 + k0), .int 0] [] (wr mu 1 4 ((Int32.ofNat (jSl k0)) / 4)) n
  exact k1
theorem rX4_load_15 {l : Launch} {G : jG} {X : jX} {Q : State → Prop} {n hg nc : Nat} {ret : Option FieldType} {mu : jM} {x1 : Int32} {x3 : Int32} {k0 : Nat} (h : jOk l G X cX4_load 4 ret RX4 hg nc) (hst : k0 < 5) (s3 : ¬ (mu 1 4) ≤ x3 → vp_in (4 * x3) (jSl k0)) (s4 : ¬ (mu 1 4) ≤ x3 → vp_in x3 64) (s5 : ¬ (mu 1 4) ≤ x3 → vp_in ((4 * x3) + 1) (jSl k0)) (s6 : ¬ (mu 1 4) ≤ x3 → vp_in x3 64) (s7 : ¬ (mu 1 4) ≤ x3 → vp_in ((4 * x3) + 2) (jSl k0)) (s8 : ¬ (mu 1 4) ≤ x3 → vp_in x3 64) (s9 : ¬ (mu 1 4) ≤ x3 → vp_in ((4 * x3) + 3) (jSl k0)) (s10 : ¬ (mu 1 4) ≤ x3 → vp_in x3 64)
    (k2 : (mu 1 4) ≤ x3 → J l G X Q 4 79 [.ref 1, .int x1, .ref (1000 + k0), .int x3] [] mu n)
    (k11 : ¬ (mu 1 4) ≤ x3 → J l G X Q 4 15 [.ref 1, .int x1, .ref (1000 + k0), .int (x3 + 1)] [] (wr (wr (wr (wr mu 2 (x3).toNatClampNeg (jSt k0 ((4 * x3)).toNatClampNeg)) 3 (x3).toNatClampNeg (jSt k0 (((4 * x3) + 1)).toNatClampNeg)) 4 (x3).toNatClampNeg (jSt k0 (((4 * x3) + 2)).toNatClampNeg)) 5 (x3).toNatClampNeg (jSt k0 (((4 * x3) + 3)).toNatClampNeg)) n) :
    J l G X Q 4 15 [.ref 1, .int x1, .ref (1000 + k0), .int x3] [] mu n := by
  refine J_iload_n h dX4_load_15 rfl rfl ?_
  refine J_aload_n h dX4_load_16 rfl rfl ?_
  refine J_geti (k := 4) h dX4_load_17 jc4 rfl rfl (by decide) w119 ?_
  refine J_icmp_ge (tgt := 79) h dX4_load_20 (by decide) (fun q1 => ?_) (fun q1 => ?_)
  · skip
    exact k2 q1
  · skip
    refine J_aload_n h dX4_load_23 rfl rfl ?_
    refine J_getr (k := 0) h dX4_load_24 jc4 rfl rfl (by decide) w111 ?_
    refine J_iload_n h dX4_load_27 rfl rfl ?_
    refine J_aload_n h dX4_load_28 rfl rfl ?_
    refine J_iconst h dX4_load_29 ci_4 ?_
    refine J_iload_n h dX4_load_30 rfl rfl ?_
    refine J_imul h dX4_load_31 ?_
    refine J_sald h dX4_load_32 hst (s3 q1) ?_
    refine J_iast h dX4_load_33 rfl (s4 q1) ?_
    refine J_aload_n h dX4_load_34 rfl rfl ?_
    refine J_getr (k := 1) h dX4_load_35 jc4 rfl rfl (by decide) w113 ?_
    refine J_iload_n h dX4_load_38 rfl rfl ?_
    refine J_aload_n h dX4_load_39 rfl rfl ?_
    refine J_iconst h dX4_load_40 ci_4 ?_
    refine J_iload_n h dX4_load_41 rfl rfl ?_
    refine J_imul h dX4_load_42 ?_
    refine J_iconst h dX4_load_43 ci_1 ?_
    refine J_iadd h dX4_load_44 ?_
    refine J_sald h dX4_load_45 hst (s5 q1) ?_
    refine J_iast h dX4_load_46 rfl (s6 q1) ?_
    refine J_aload_n h dX4_load_47 rfl rfl ?_
    refine J_getr (k := 2) h dX4_load_48 jc4 rfl rfl (by decide) w115 ?_
    refine J_iload_n h dX4_load_51 rfl rfl ?_
    refine J_aload_n h dX4_load_52 rfl rfl ?_
    refine J_iconst h dX4_load_53 ci_4 ?_
    refine J_iload_n h dX4_load_54 rfl rfl ?_
    refine J_imul h dX4_load_55 ?_
    refine J_iconst h dX4_load_56 ci_2 ?_
    refine J_iadd h dX4_load_57 ?_
    refine J_sald h dX4_load_58 hst (s7 q1) ?_
    refine J_iast h dX4_load_59 rfl (s8 q1) ?_
    refine J_aload_n h dX4_load_60 rfl rfl ?_
    refine J_getr (k := 3) h dX4_load_61 jc4 rfl rfl (by decide) w117 ?_
    refine J_iload_n h dX4_load_64 rfl rfl ?_
    refine J_aload_n h dX4_load_65 rfl rfl ?_
    refine J_iconst h dX4_load_66 ci_4 ?_
    refine J_iload_n h dX4_load_67 rfl rfl ?_
    refine J_imul h dX4_load_68 ?_
    refine J_iconst h dX4_load_69 ci_3 ?_
    refine J_iadd h dX4_load_70 ?_
    refine J_sald h dX4_load_71 hst (s9 q1) ?_
    refine J_iast h dX4_load_72 rfl (s10 q1) ?_
    refine J_iinc h dX4_load_73 rfl (cc_1 _) (by decide) rfl ?_
    show J l G X Q 4 76 [.ref 1, .int x1, .ref (1000 + k0), .int (x3 + 1)] [] (wr (wr (wr (wr mu 2 (x3).toNatClampNeg (jSt k0 ((4 * x3)).toNatClampNeg)) 3 (x3).toNatClampNeg (jSt k0 (((4 * x3) + 1)).toNatClampNeg)) 4 (x3).toNatClampNeg (jSt k0 (((4 * x3) + 2)).toNatClampNeg)) 5 (x3).toNatClampNeg (jSt k0 (((4 * x3) + 3)).toNatClampNeg)) n
    refine J_goto (tgt := 15) h dX4_load_76 (by decide) ?_
    exact k11 q1
/-- the built-in programs -/
def bltn (k : Nat) : List Wd := match k with
  | 0 => [(0, 3, 1, 0), (8, 2, 0, 3), (14, 2, 4, 0), (15, 4, 1, 0), (18, 3, 0, 0), (0, 0, 2, 0), (0, 2, 0, 0), (8, 2, 0, 2), (14, 2, 6, 0), (15, 4, 5, 0), (16, 5, 0, 0), (14, 5, 3, 0), (0, 0, 1, 0), (19, 1, 0, 0), (0, 2, 0, 0)]
  | 1 => [(15, 4, 4, 0), (16, 2, 0, 0), (14, 2, 2, 0), (17, 2, 0, 0), (5, 0, 0, 2), (15, 4, 1, 0), (18, 0, 0, 0)]
  | 2 => [(15, 4, 2, 0), (17, 2, 0, 0), (2, 1, 1, 2), (19, 5, 0, 0), (0, 6, 1, 0), (7, 5, 6, 5), (14, 5, 8, 0), (0, 2, 3, 0), (8, 3, 1, 2), (0, 2, 2, 0), (8, 2, 1, 2), (9, 2, 2, 0), (10, 0, 3, 2), (0, 1, 0, 0), (0, 6, 0, 0), (15, 4, 1, 0), (18, 0, 0, 0)]
  | 3 => [(19, 5, 0, 0), (0, 6, 1, 0), (7, 5, 6, 5), (14, 5, 5, 0), (0, 1, 0, 0), (15, 4, 2, 0), (17, 2, 0, 0), (2, 1, 1, 2), (1, 0, 1, 0), (15, 4, 1, 0), (18, 0, 0, 0)]
  | _ => [(0, 3, 0, 0), (0, 5, 0, 0), (15, 4, 9, 0), (17, 2, 0, 0), (7, 6, 3, 2), (14, 6, 1, 0), (6, 5, 5, 2), (7, 6, 2, 3), (14, 6, 3, 0), (3, 2, 3, 2), (12, 2, 2, 0), (10, 7, 7, 2), (19, 2, 0, 0), (0, 6, 1, 0), (7, 2, 6, 2), (8, 6, 1, 3), (9, 2, 2, 6), (20, 6, 0, 0), (0, 4, 1, 0), (2, 6, 6, 4), (7, 4, 5, 6), (9, 2, 2, 4), (14, 2, 3, 0), (0, 4, 1, 0), (10, 7, 7, 4), (13, 1, 7, 0), (8, 4, 1, 3), (3, 5, 3, 1), (14, 4, 1, 0), (1, 5, 6, 0), (15, 4, 1, 0), (18, 5, 0, 0)]
theorem bltn_at0 : ∀ k, k < 5 → ∀ i, i < 32 → i < (bltn k).length → ((bltn k).getD i (0, 0, 0, 0)).1 = jSt k (4 * i) ∧ ((bltn k).getD i (0, 0, 0, 0)).2.1 = jSt k (4 * i + 1) ∧ ((bltn k).getD i (0, 0, 0, 0)).2.2.1 = jSt k (4 * i + 2) ∧ ((bltn k).getD i (0, 0, 0, 0)).2.2.2 = jSt k (4 * i + 3) := by decide +kernel
theorem bltn_at {k : Nat} (hk : k < 5) {i : Nat} (hi : i < 32) {w : Wd} (hw : (bltn k)[i]? = some w) : w.1 = jSt k (4 * i) ∧ w.2.1 = jSt k (4 * i + 1) ∧ w.2.2.1 = jSt k (4 * i + 2) ∧ w.2.2.2 = jSt k (4 * i + 3) := by
  have h := bltn_at0 k hk i hi (List.getElem?_eq_some_iff.mp hw).1
  rw [List.getD_eq_getElem?_getD, hw] at h
  exact h
theorem bltn_len : ∀ k, k < 5 → (bltn k).length ≤ 32 ∧ jSl k = 4 * (bltn k).length ∧ Int32.ofNat (jSl k) / 4 = nI (bltn k).length := by decide +kernel
/-- a method that answers a built-in table -/
def jCr (l : Launch) (G : jG) (y : MethodName) (cc : ByteArray) (mL h : Nat) (ret : Option FieldType) (av : List Value) (mu : jM) (k : Nat) : Prop :=
  Met l y (jWs y cc mL ret) (jR h 0) (va_Pc (av.map (tv G.1)) (fun U => jU G mu U)) (va_Qr (fun u : jM => u = mu) (fun u a t => a = G.1 (1000 + k) ∧ jB G u t) (jA G)) 0 0 (jA G)
section C36
variable {l : Launch} {G : jG} {mu : jM}
theorem c_builtInWords (hl : l.stackTraces = false) (hG : jGok G) {k : Nat} (hk : k < 5) : jCr l G yX4_builtInWords cX4_builtInWords 1 1 (some (.array .int)) [.int (nI k)] mu k := by
  refine Met.ofW (cc := cX4_builtInWords) (maxL := 1) (ret := some (.array .int)) (by decide) rfl ?_
  intro p e s m args below meth c s₁ B hml hv
  obtain ⟨rfl, hU⟩ := hv
  rw [lg_entry_eq]
  have hL := lv_entry ([Value.int (nI k)].map (tv G.1)) (n := 1) (Nat.le_of_ble_eq_true rfl)
  have h := jOk.body (hg := 1) (n := 0) hl hG B hml hU
  have key : ∀ (pc : Nat) (j : Nat), j = k → decode cX4_builtInWords pc = .ok (.areturn, 1) → J l G ((p, e, (headSpec (jWs yX4_builtInWords cX4_builtInWords 1 (some (.array .int))) (jR 1 0)).room, s), (m, ([Value.int (nI k)].map (tv G.1)).toArray, below, meth, c)) (MQ below (va_Qr (fun u : jM => u = mu) (fun u a t => a = G.1 (1000 + k) ∧ jB G u t) (jA G)) ([Value.int (nI k)].map (tv G.1)).toArray s 0 0 (jA G)) 1 pc [.int (nI k)] [.ref (1000 + j)] mu 0 := by
    intro pc j hj d H locs Ls hP hS hL
    subst hj
    have hlocks := h.2.2.2.2.2.2.2.2.1
    exact W.aret h.1 h.2.1 h.2.2.2.2.2.2.2.2.2.1 (Or.inr ⟨_, rfl⟩) (Or.inr ⟨_, rfl⟩) (fun t ht hW => ⟨⟨mu, _, rfl, rfl, rfl, by show va_P _ _ _ t.heap; rw [ht]; exact hP⟩, hS.F ht⟩) hS.2.2 d
  have hb : J l G ((p, e, (headSpec (jWs yX4_builtInWords cX4_builtInWords 1 (some (.array .int))) (jR 1 0)).room, s), (m, ([Value.int (nI k)].map (tv G.1)).toArray, below, meth, c)) (MQ below (va_Qr (fun u : jM => u = mu) (fun u a t => a = G.1 (1000 + k) ∧ jB G u t) (jA G)) ([Value.int (nI k)].map (tv G.1)).toArray s 0 0 (jA G)) 1 0 [.int (nI k)] [] mu 0 := by
    refine rX4_builtInWords_0 h ?_
    refine rX4_builtInWords_1 h (fun q => ?_) (fun q => ?_) (fun q => ?_) (fun q => ?_) (fun q0 q1 q2 q3 => ?_)
    · exact rX4_builtInWords_32 h (key 35 0 ((nI_eq (b := 0) (by omega) (by omega)).mp q).symm dX4_builtInWords_35)
    · exact rX4_builtInWords_36 h (key 39 1 ((nI_eq (b := 1) (by omega) (by omega)).mp q).symm dX4_builtInWords_39)
    · exact rX4_builtInWords_40 h (key 43 2 ((nI_eq (b := 2) (by omega) (by omega)).mp q).symm dX4_builtInWords_43)
    · exact rX4_builtInWords_44 h (key 47 3 ((nI_eq (b := 3) (by omega) (by omega)).mp q).symm dX4_builtInWords_47)
    · refine rX4_builtInWords_48 h (key 51 4 ?_ dX4_builtInWords_51)
      have z0 : k ≠ 0 := fun z : k = 0 => q0 (by rw [z]; rfl)
      have z1 : k ≠ 1 := fun z : k = 1 => q1 (by rw [z]; rfl)
      have z2 : k ≠ 2 := fun z : k = 2 => q2 (by rw [z]; rfl)
      have z3 : k ≠ 3 := fun z : k = 3 => q3 (by rw [z]; rfl)
      omega
  exact hb s.heap [] _ hU.2.1 va_S.rf (jEn_has (n := 0) hL)
theorem c_load (hl : l.stackTraces = false) (hG : jGok G) {k : Nat} (hk : k < 5) : jCv l G yX4_load cX4_load 4 2 [.ref 1, .int (nI k)] mu (fun mu' => ProgC (bltn k) mu' ∧ Same [1, 2, 3, 4, 5] mu mu') := by
  refine jCv.of (pad := 2) hl hG (by decide) (Nat.le_of_ble_eq_true rfl) (fun X h => ?_)
  show J l G X _ 4 0 [.ref 1, .int (nI k), .float 0, .float 0] [] mu 0
  refine rX4_load_0 h ?_
  obtain ⟨N, hN⟩ : ∃ N, N = (bltn k).length := ⟨_, rfl⟩
  have bl := bltn_len k hk
  rw [← hN] at bl
  have loop : ∀ (m i : Nat) (m1 : jM), i + m = N → m1 1 4 = nI N → (∀ j, j < i → m1 2 j = jSt k (4 * j) ∧ m1 3 j = jSt k (4 * j + 1) ∧ m1 4 j = jSt k (4 * j + 2) ∧ m1 5 j = jSt k (4 * j + 3)) → Same [1, 2, 3, 4, 5] mu m1 →
      J l G X (jRv G X (fun mu' => ProgC (bltn k) mu' ∧ Same [1, 2, 3, 4, 5] mu mu')) 4 15 [.ref 1, .int (nI k), .ref (1000 + k), .int (nI i)] [] m1 0 := by
    intro m
    induction m with
    | zero =>
      intro i m1 hi h4 hj hs
      refine rX4_load_15 h hk ?_ ?_ ?_ ?_ ?_ ?_ ?_ ?_ (fun q => ?_) ?_
      case refine_9 =>
        refine J_vret h dX4_load_79 ⟨⟨by rw [h4, hN], fun j w hw => ?_⟩, hs⟩
        have hjl := (List.getElem?_eq_some_iff.mp hw).1
        have hb := bltn_at hk (by omega) hw
        rw [hb.1, hb.2.1, hb.2.2.1, hb.2.2.2]
        exact hj j (by omega)
      all_goals (intro q; exact absurd (by rw [h4]; exact nI_le (by omega) (by omega)) q)
    | succ m ih =>
      intro i m1 hi h4 hj hs
      refine rX4_load_15 h hk ?_ ?_ ?_ ?_ ?_ ?_ ?_ ?_ (fun q => ?_) (fun q => ?_)
      case refine_9 => exact absurd (by rw [h4] at q; exact (nI_leI (by omega) (by omega)).mp q) (by omega)
      case refine_10 =>
        rw [nI_1, show (4 : Int32) = nI 4 from rfl, nI_mul, show nI (4 * i) + 2 = nI (4 * i + 2) from nI_add _ 2, show nI (4 * i) + 3 = nI (4 * i + 3) from nI_add _ 3, nI_1, nI_clamp (n := i) (by omega), nI_clamp (n := 4 * i) (by omega), nI_clamp (n := 4 * i + 1) (by omega), nI_clamp (n := 4 * i + 2) (by omega), nI_clamp (n := 4 * i + 3) (by omega)]
        refine ih (i + 1) _ (by omega) h4 (fun j hj2 => ?_) (hs.trans' ((((Same.wr (by decide)).trans' (Same.wr (by decide))).trans' (Same.wr (by decide))).trans' (Same.wr (by decide))))
        show upd (m1 2) i _ j = _ ∧ upd (m1 3) i _ j = _ ∧ upd (m1 4) i _ j = _ ∧ upd (m1 5) i _ j = _
        by_cases z : j = i
        · subst z; simp [upd]
        · simp only [upd, if_neg z]; exact hj j (by omega)
      all_goals (intro q; (try simp only [nL0, nL1, nL2, nL3, nL4, nL5, nL7, nL8, nL15, nL16, nL24, nL48, nL60, nL64, nL120, nL192, nL240, nI_mul, nI_add]); exact vp_in_nI (by omega) (by omega))
  have hw : GoodIn jT (va_wsS RX4 28 yX4_builtInWords (jWs yX4_builtInWords cX4_builtInWords 1 (some (.array .int)))) := jgS w609 w610 w77 w611
  have kk : J l G X (jRv G X (fun mu' => ProgC (bltn k) mu' ∧ Same [1, 2, 3, 4, 5] mu mu')) 4 4 [.ref 1, .int (nI k), .float 0, .float 0] [.ref (1000 + k)] mu 0 := by
    refine rX4_load_4 h hk ?_
    exact loop N 0 _ (by omega) (by rw [bl.2.2]; rfl) (fun j q => absurd q (by omega)) (Same.wr (by decide))
  obtain ⟨⟨p, e, R, s⟩, m, args, below, meth, c⟩ := X
  intro H locs Ls hP hS hL
  have hcap : 0 ≤ R.cells ∧ 6 * 0 ≤ R.slots := ⟨Nat.zero_le _, Nat.zero_le _⟩
  have hroom : (jR 1 0).frames + 1 ≤ R.frames ∧ 8 + (1 + 11) + (jR 1 0).locals ≤ R.locals := by
    have q := h.2.2.2.2.2.2.2.2.2.2.1
    simp only [jR]
    omega
  refine va_callr (va_runS (As := [Value.int (nI k)].map (tv G.1)) (rest := ([] : List Value).map (tv G.1)) ⟨h.1, h.2.1, h.2.2.1, h.2.2.2.1, h.2.2.2.2.1⟩ (c_builtInWords hl hG hk (mu := mu)) (va_cwS 1 h.2.2.2.2.1 hw rfl rfl rfl (by decide) hroom) ⟨jBlind, fun U hU hW => ⟨rfl, jU.call h.2.2.2.2.2.2.2.1 h.2.2.2.2.2.1 hP hS hU hW⟩⟩ rfl (by rfl) hL.1 rfl (lv_room (Nat.zero_le 8)) dX4_load_1 hcap) hS (fun q _ hq => hq) (fun q hq => hq) (fun u ra t H1 locs1 ht _ hq hB _ _ hS1 => ?_)
  obtain ⟨rfl, hB⟩ := hB
  subst hq
  exact kk H1 locs1 Ls (by rw [← ht]; exact hB) hS1 hL
theorem c_builtin (hl : l.stackTraces = false) (hG : jGok G) {run : Bool} (hr : RunC run mu) (x : Int32) : jXi l G yX7_builtin cX7_builtin 2 8 6 (some .int) [.ref 0, .int x] mu
    (fun v mu' => cdBuilt run x = 0 ∧ v = nI (bltn x.toNatClampNeg).length ∧ ProgC (bltn x.toNatClampNeg) mu' ∧ Same [1, 2, 3, 4, 5] mu mu') (exC (cdBuilt run x) [E_IAE, E_ISE] mu) := by
  refine jXi.of (pad := 0) hl hG (by decide) (Nat.le_of_ble_eq_true rfl) (fun X h ht => ?_)
  show J l G X _ 2 0 [.ref 0, .int x] [] mu 0
  refine rX7_builtin_0 h (fun q => ?_) (fun q q2 => ?_) (fun q q2 => ?_)
  · exact tX7_builtin_9 h ht (by decide) (by decide) ⟨rfl, by unfold cdBuilt; rw [if_pos (Or.inl q)]; decide, by unfold cdBuilt; rw [if_pos (Or.inl q)]; rfl⟩
  · have q4 : ¬ (x < 0 ∨ 4 < x) := by grind
    have ex : cdBuilt run x = if run then 2 else 0 := by unfold cdBuilt; rw [if_neg q4]
    refine rX7_builtin_20 h ht (c_refuse hl hG hr) (by decide) (by decide) (fun E m1 e1 => ?_) (fun m1 e1 => ?_)
    · obtain ⟨rfl, rfl, rfl⟩ := e1
      exact ⟨rfl, by rw [ex]; decide, by rw [ex]; rfl⟩
    · obtain ⟨rfl, rfl⟩ := e1
      obtain ⟨k, hk, rfl⟩ := nI_of2 (M := 4) (n := 4) rfl q (by grind)
      refine rX7_builtin_23 h ?_
      refine rX7_builtin_28 h (c_load hl hG (k := k) (by omega)) (by decide) (by decide) (fun m2 e2 => ?_)
      refine rX7_builtin_31 h ?_
      rw [e2.1.1]
      refine J_iretX h dX7_builtin_38 rfl (by decide) ⟨by rw [ex]; rfl, ?_⟩
      rw [nI_clamp (by omega)]
      exact ⟨rfl, e2⟩
  · exact tX7_builtin_9 h ht (by decide) (by decide) ⟨rfl, by unfold cdBuilt; rw [if_pos (Or.inr (by grind))]; decide, by unfold cdBuilt; rw [if_pos (Or.inr (by grind))]; rfl⟩
theorem ProgR.app {pr : List Wd} {mu mu' : jM} {w : Wd} (hP : ProgR pr mu) (h1 : mu' 65 (4 * pr.length) = w.1 ∧ mu' 65 (4 * pr.length + 1) = w.2.1 ∧ mu' 65 (4 * pr.length + 2) = w.2.2.1 ∧ mu' 65 (4 * pr.length + 3) = w.2.2.2) (h2 : ∀ k, k < 4 * pr.length ∨ 4 * pr.length + 3 < k → mu' 65 k = mu 65 k) (h3 : mu' 58 9 = nI pr.length + 1) : ProgR (pr ++ [w]) mu' := by
  refine ⟨by rw [h3, nI_1, List.length_append]; rfl, fun i w' hw => ?_⟩
  rw [List.getElem?_append] at hw
  split at hw
  · next q =>
    have := hP.2 i w' hw
    rw [h2 _ (by omega), h2 _ (by omega), h2 _ (by omega), h2 _ (by omega)]
    exact this
  · next q =>
    have hi : i - pr.length = 0 := by
      rcases Nat.eq_zero_or_pos (i - pr.length) with z | z
      · exact z
      · rw [List.getElem?_eq_none (by simp; omega)] at hw; cases hw
    rw [hi] at hw
    simp at hw
    subst hw
    rw [show i = pr.length by omega]
    exact h1
theorem k_add (hl : l.stackTraces = false) (hG : jGok G) {pr : List Wd} (hP : ProgR pr mu) (hlen : pr.length < 64) (a b c d : Int32) : jCv l G yX8_add cX8_add 5 2 [.ref 58, .int a, .int b, .int c, .int d] mu
    (fun mu' => ProgR (pr ++ [(a, b, c, d)]) mu' ∧ SmR [65] [9] mu mu') := by
  refine jCv.of (pad := 0) hl hG (by decide) (Nat.le_of_ble_eq_true rfl) (fun X h => ?_)
  show J l G X _ 5 0 [.ref 58, .int a, .int b, .int c, .int d] [] mu 0
  refine rX8_add_0 h ?_
  rw [hP.1]
  refine rX8_add_10 h (k_put hl hG hlen (a, b, c, d)) (by decide) (Nat.zero_le _) (fun m1 e1 => ?_)
  refine rX8_add_13 h ?_
  have h9 : m1 58 9 = nI pr.length := by rw [e1.2.2.2 9 (by decide), hP.1]
  refine J_vret h dX8_add_23 ⟨hP.app ?_ ?_ ?_, (e1.2.2.wide (by decide) (by decide)).trans' (SmR.fld (by decide))⟩
  · exact e1.1
  · exact e1.2.1
  · show upd (m1 58) 9 (m1 58 9 + 1) 9 = _
    rw [h9]; simp [upd]
theorem k_layers (hl : l.stackTraces = false) (hG : jGok G) (hP : ProgR [] mu) : jCv l G yX8_layers cX8_layers 1 3 [.ref 58] mu (fun mu' => ProgR (bltn 0) mu' ∧ SmR [65] [9] mu mu') := by
  refine jCv.of (pad := 0) hl hG (by decide) (Nat.le_of_ble_eq_true rfl) (fun X h => ?_)
  show J l G X _ 1 0 [.ref 58] [] mu 0
  have hp := hP
  have hs : SmR [65] [9] mu mu := SmR.rfl'
  refine rX8_layers_0 h ?_
  refine rX8_layers_5 h (k_add hl hG hp (by decide) _ _ _ _) (by decide) (Nat.zero_le _) (fun m1 e1 => ?_)
  obtain ⟨hp, e2⟩ := e1
  have hs := hs.trans' e2
  refine rX8_layers_8 h ?_
  refine rX8_layers_14 h (k_add hl hG hp (by decide) _ _ _ _) (by decide) (Nat.zero_le _) (fun m1 e1 => ?_)
  obtain ⟨hp, e2⟩ := e1
  have hs := hs.trans' e2
  refine rX8_layers_17 h ?_
  refine rX8_layers_23 h (k_add hl hG hp (by decide) _ _ _ _) (by decide) (Nat.zero_le _) (fun m1 e1 => ?_)
  obtain ⟨hp, e2⟩ := e1
  have hs := hs.trans' e2
  refine rX8_layers_26 h ?_
  refine rX8_layers_32 h (k_add hl hG hp (by decide) _ _ _ _) (by decide) (Nat.zero_le _) (fun m1 e1 => ?_)
  obtain ⟨hp, e2⟩ := e1
  have hs := hs.trans' e2
  refine rX8_layers_35 h ?_
  refine rX8_layers_41 h (k_add hl hG hp (by decide) _ _ _ _) (by decide) (Nat.zero_le _) (fun m1 e1 => ?_)
  obtain ⟨hp, e2⟩ := e1
  have hs := hs.trans' e2
  refine rX8_layers_44 h ?_
  refine rX8_layers_49 h (k_add hl hG hp (by decide) _ _ _ _) (by decide) (Nat.zero_le _) (fun m1 e1 => ?_)
  obtain ⟨hp, e2⟩ := e1
  have hs := hs.trans' e2
  refine rX8_layers_52 h ?_
  refine rX8_layers_57 h (k_add hl hG hp (by decide) _ _ _ _) (by decide) (Nat.zero_le _) (fun m1 e1 => ?_)
  obtain ⟨hp, e2⟩ := e1
  have hs := hs.trans' e2
  refine rX8_layers_60 h ?_
  refine rX8_layers_66 h (k_add hl hG hp (by decide) _ _ _ _) (by decide) (Nat.zero_le _) (fun m1 e1 => ?_)
  obtain ⟨hp, e2⟩ := e1
  have hs := hs.trans' e2
  refine rX8_layers_69 h ?_
  refine rX8_layers_76 h (k_add hl hG hp (by decide) _ _ _ _) (by decide) (Nat.zero_le _) (fun m1 e1 => ?_)
  obtain ⟨hp, e2⟩ := e1
  have hs := hs.trans' e2
  refine rX8_layers_79 h ?_
  refine rX8_layers_85 h (k_add hl hG hp (by decide) _ _ _ _) (by decide) (Nat.zero_le _) (fun m1 e1 => ?_)
  obtain ⟨hp, e2⟩ := e1
  have hs := hs.trans' e2
  refine rX8_layers_88 h ?_
  refine rX8_layers_94 h (k_add hl hG hp (by decide) _ _ _ _) (by decide) (Nat.zero_le _) (fun m1 e1 => ?_)
  obtain ⟨hp, e2⟩ := e1
  have hs := hs.trans' e2
  refine rX8_layers_97 h ?_
  refine rX8_layers_103 h (k_add hl hG hp (by decide) _ _ _ _) (by decide) (Nat.zero_le _) (fun m1 e1 => ?_)
  obtain ⟨hp, e2⟩ := e1
  have hs := hs.trans' e2
  refine rX8_layers_106 h ?_
  refine rX8_layers_111 h (k_add hl hG hp (by decide) _ _ _ _) (by decide) (Nat.zero_le _) (fun m1 e1 => ?_)
  obtain ⟨hp, e2⟩ := e1
  have hs := hs.trans' e2
  refine rX8_layers_114 h ?_
  refine rX8_layers_120 h (k_add hl hG hp (by decide) _ _ _ _) (by decide) (Nat.zero_le _) (fun m1 e1 => ?_)
  obtain ⟨hp, e2⟩ := e1
  have hs := hs.trans' e2
  refine rX8_layers_123 h ?_
  refine rX8_layers_128 h (k_add hl hG hp (by decide) _ _ _ _) (by decide) (Nat.zero_le _) (fun m1 e1 => ?_)
  obtain ⟨hp, e2⟩ := e1
  have hs := hs.trans' e2
  exact J_vret h dX8_layers_131 (by exact ⟨hp, hs⟩)
theorem k_leasts (hl : l.stackTraces = false) (hG : jGok G) (hP : ProgR [] mu) : jCv l G yX8_leasts cX8_leasts 1 3 [.ref 58] mu (fun mu' => ProgR (bltn 1) mu' ∧ SmR [65] [9] mu mu') := by
  refine jCv.of (pad := 0) hl hG (by decide) (Nat.le_of_ble_eq_true rfl) (fun X h => ?_)
  show J l G X _ 1 0 [.ref 58] [] mu 0
  have hp := hP
  have hs : SmR [65] [9] mu mu := SmR.rfl'
  refine rX8_leasts_0 h ?_
  refine rX8_leasts_6 h (k_add hl hG hp (by decide) _ _ _ _) (by decide) (Nat.zero_le _) (fun m1 e1 => ?_)
  obtain ⟨hp, e2⟩ := e1
  have hs := hs.trans' e2
  refine rX8_leasts_9 h ?_
  refine rX8_leasts_15 h (k_add hl hG hp (by decide) _ _ _ _) (by decide) (Nat.zero_le _) (fun m1 e1 => ?_)
  obtain ⟨hp, e2⟩ := e1
  have hs := hs.trans' e2
  refine rX8_leasts_18 h ?_
  refine rX8_leasts_24 h (k_add hl hG hp (by decide) _ _ _ _) (by decide) (Nat.zero_le _) (fun m1 e1 => ?_)
  obtain ⟨hp, e2⟩ := e1
  have hs := hs.trans' e2
  refine rX8_leasts_27 h ?_
  refine rX8_leasts_33 h (k_add hl hG hp (by decide) _ _ _ _) (by decide) (Nat.zero_le _) (fun m1 e1 => ?_)
  obtain ⟨hp, e2⟩ := e1
  have hs := hs.trans' e2
  refine rX8_leasts_36 h ?_
  refine rX8_leasts_41 h (k_add hl hG hp (by decide) _ _ _ _) (by decide) (Nat.zero_le _) (fun m1 e1 => ?_)
  obtain ⟨hp, e2⟩ := e1
  have hs := hs.trans' e2
  refine rX8_leasts_44 h ?_
  refine rX8_leasts_50 h (k_add hl hG hp (by decide) _ _ _ _) (by decide) (Nat.zero_le _) (fun m1 e1 => ?_)
  obtain ⟨hp, e2⟩ := e1
  have hs := hs.trans' e2
  refine rX8_leasts_53 h ?_
  refine rX8_leasts_59 h (k_add hl hG hp (by decide) _ _ _ _) (by decide) (Nat.zero_le _) (fun m1 e1 => ?_)
  obtain ⟨hp, e2⟩ := e1
  have hs := hs.trans' e2
  exact J_vret h dX8_leasts_62 (by exact ⟨hp, hs⟩)
theorem k_cells (hl : l.stackTraces = false) (hG : jGok G) (hP : ProgR [] mu) : jCv l G yX8_cells cX8_cells 1 3 [.ref 58] mu (fun mu' => ProgR (bltn 2) mu' ∧ SmR [65] [9] mu mu') := by
  refine jCv.of (pad := 0) hl hG (by decide) (Nat.le_of_ble_eq_true rfl) (fun X h => ?_)
  show J l G X _ 1 0 [.ref 58] [] mu 0
  have hp := hP
  have hs : SmR [65] [9] mu mu := SmR.rfl'
  refine rX8_cells_0 h ?_
  refine rX8_cells_6 h (k_add hl hG hp (by decide) _ _ _ _) (by decide) (Nat.zero_le _) (fun m1 e1 => ?_)
  obtain ⟨hp, e2⟩ := e1
  have hs := hs.trans' e2
  refine rX8_cells_9 h ?_
  refine rX8_cells_15 h (k_add hl hG hp (by decide) _ _ _ _) (by decide) (Nat.zero_le _) (fun m1 e1 => ?_)
  obtain ⟨hp, e2⟩ := e1
  have hs := hs.trans' e2
  refine rX8_cells_18 h ?_
  refine rX8_cells_23 h (k_add hl hG hp (by decide) _ _ _ _) (by decide) (Nat.zero_le _) (fun m1 e1 => ?_)
  obtain ⟨hp, e2⟩ := e1
  have hs := hs.trans' e2
  refine rX8_cells_26 h ?_
  refine rX8_cells_32 h (k_add hl hG hp (by decide) _ _ _ _) (by decide) (Nat.zero_le _) (fun m1 e1 => ?_)
  obtain ⟨hp, e2⟩ := e1
  have hs := hs.trans' e2
  refine rX8_cells_35 h ?_
  refine rX8_cells_41 h (k_add hl hG hp (by decide) _ _ _ _) (by decide) (Nat.zero_le _) (fun m1 e1 => ?_)
  obtain ⟨hp, e2⟩ := e1
  have hs := hs.trans' e2
  refine rX8_cells_44 h ?_
  refine rX8_cells_51 h (k_add hl hG hp (by decide) _ _ _ _) (by decide) (Nat.zero_le _) (fun m1 e1 => ?_)
  obtain ⟨hp, e2⟩ := e1
  have hs := hs.trans' e2
  refine rX8_cells_54 h ?_
  refine rX8_cells_61 h (k_add hl hG hp (by decide) _ _ _ _) (by decide) (Nat.zero_le _) (fun m1 e1 => ?_)
  obtain ⟨hp, e2⟩ := e1
  have hs := hs.trans' e2
  refine rX8_cells_64 h ?_
  refine rX8_cells_69 h (k_add hl hG hp (by decide) _ _ _ _) (by decide) (Nat.zero_le _) (fun m1 e1 => ?_)
  obtain ⟨hp, e2⟩ := e1
  have hs := hs.trans' e2
  refine rX8_cells_72 h ?_
  refine rX8_cells_78 h (k_add hl hG hp (by decide) _ _ _ _) (by decide) (Nat.zero_le _) (fun m1 e1 => ?_)
  obtain ⟨hp, e2⟩ := e1
  have hs := hs.trans' e2
  refine rX8_cells_81 h ?_
  refine rX8_cells_86 h (k_add hl hG hp (by decide) _ _ _ _) (by decide) (Nat.zero_le _) (fun m1 e1 => ?_)
  obtain ⟨hp, e2⟩ := e1
  have hs := hs.trans' e2
  refine rX8_cells_89 h ?_
  refine rX8_cells_95 h (k_add hl hG hp (by decide) _ _ _ _) (by decide) (Nat.zero_le _) (fun m1 e1 => ?_)
  obtain ⟨hp, e2⟩ := e1
  have hs := hs.trans' e2
  refine rX8_cells_98 h ?_
  refine rX8_cells_104 h (k_add hl hG hp (by decide) _ _ _ _) (by decide) (Nat.zero_le _) (fun m1 e1 => ?_)
  obtain ⟨hp, e2⟩ := e1
  have hs := hs.trans' e2
  refine rX8_cells_107 h ?_
  refine rX8_cells_113 h (k_add hl hG hp (by decide) _ _ _ _) (by decide) (Nat.zero_le _) (fun m1 e1 => ?_)
  obtain ⟨hp, e2⟩ := e1
  have hs := hs.trans' e2
  refine rX8_cells_116 h ?_
  refine rX8_cells_121 h (k_add hl hG hp (by decide) _ _ _ _) (by decide) (Nat.zero_le _) (fun m1 e1 => ?_)
  obtain ⟨hp, e2⟩ := e1
  have hs := hs.trans' e2
  refine rX8_cells_124 h ?_
  refine rX8_cells_130 h (k_add hl hG hp (by decide) _ _ _ _) (by decide) (Nat.zero_le _) (fun m1 e1 => ?_)
  obtain ⟨hp, e2⟩ := e1
  have hs := hs.trans' e2
  refine rX8_cells_133 h ?_
  refine rX8_cells_139 h (k_add hl hG hp (by decide) _ _ _ _) (by decide) (Nat.zero_le _) (fun m1 e1 => ?_)
  obtain ⟨hp, e2⟩ := e1
  have hs := hs.trans' e2
  refine rX8_cells_142 h ?_
  refine rX8_cells_148 h (k_add hl hG hp (by decide) _ _ _ _) (by decide) (Nat.zero_le _) (fun m1 e1 => ?_)
  obtain ⟨hp, e2⟩ := e1
  have hs := hs.trans' e2
  exact J_vret h dX8_cells_151 (by exact ⟨hp, hs⟩)
theorem k_walks (hl : l.stackTraces = false) (hG : jGok G) (hP : ProgR [] mu) : jCv l G yX8_walks cX8_walks 1 3 [.ref 58] mu (fun mu' => ProgR (bltn 3) mu' ∧ SmR [65] [9] mu mu') := by
  refine jCv.of (pad := 0) hl hG (by decide) (Nat.le_of_ble_eq_true rfl) (fun X h => ?_)
  show J l G X _ 1 0 [.ref 58] [] mu 0
  have hp := hP
  have hs : SmR [65] [9] mu mu := SmR.rfl'
  refine rX8_walks_0 h ?_
  refine rX8_walks_6 h (k_add hl hG hp (by decide) _ _ _ _) (by decide) (Nat.zero_le _) (fun m1 e1 => ?_)
  obtain ⟨hp, e2⟩ := e1
  have hs := hs.trans' e2
  refine rX8_walks_9 h ?_
  refine rX8_walks_15 h (k_add hl hG hp (by decide) _ _ _ _) (by decide) (Nat.zero_le _) (fun m1 e1 => ?_)
  obtain ⟨hp, e2⟩ := e1
  have hs := hs.trans' e2
  refine rX8_walks_18 h ?_
  refine rX8_walks_25 h (k_add hl hG hp (by decide) _ _ _ _) (by decide) (Nat.zero_le _) (fun m1 e1 => ?_)
  obtain ⟨hp, e2⟩ := e1
  have hs := hs.trans' e2
  refine rX8_walks_28 h ?_
  refine rX8_walks_34 h (k_add hl hG hp (by decide) _ _ _ _) (by decide) (Nat.zero_le _) (fun m1 e1 => ?_)
  obtain ⟨hp, e2⟩ := e1
  have hs := hs.trans' e2
  refine rX8_walks_37 h ?_
  refine rX8_walks_42 h (k_add hl hG hp (by decide) _ _ _ _) (by decide) (Nat.zero_le _) (fun m1 e1 => ?_)
  obtain ⟨hp, e2⟩ := e1
  have hs := hs.trans' e2
  refine rX8_walks_45 h ?_
  refine rX8_walks_51 h (k_add hl hG hp (by decide) _ _ _ _) (by decide) (Nat.zero_le _) (fun m1 e1 => ?_)
  obtain ⟨hp, e2⟩ := e1
  have hs := hs.trans' e2
  refine rX8_walks_54 h ?_
  refine rX8_walks_60 h (k_add hl hG hp (by decide) _ _ _ _) (by decide) (Nat.zero_le _) (fun m1 e1 => ?_)
  obtain ⟨hp, e2⟩ := e1
  have hs := hs.trans' e2
  refine rX8_walks_63 h ?_
  refine rX8_walks_68 h (k_add hl hG hp (by decide) _ _ _ _) (by decide) (Nat.zero_le _) (fun m1 e1 => ?_)
  obtain ⟨hp, e2⟩ := e1
  have hs := hs.trans' e2
  refine rX8_walks_71 h ?_
  refine rX8_walks_76 h (k_add hl hG hp (by decide) _ _ _ _) (by decide) (Nat.zero_le _) (fun m1 e1 => ?_)
  obtain ⟨hp, e2⟩ := e1
  have hs := hs.trans' e2
  refine rX8_walks_79 h ?_
  refine rX8_walks_85 h (k_add hl hG hp (by decide) _ _ _ _) (by decide) (Nat.zero_le _) (fun m1 e1 => ?_)
  obtain ⟨hp, e2⟩ := e1
  have hs := hs.trans' e2
  refine rX8_walks_88 h ?_
  refine rX8_walks_94 h (k_add hl hG hp (by decide) _ _ _ _) (by decide) (Nat.zero_le _) (fun m1 e1 => ?_)
  obtain ⟨hp, e2⟩ := e1
  have hs := hs.trans' e2
  exact J_vret h dX8_walks_97 (by exact ⟨hp, hs⟩)
theorem k_colours (hl : l.stackTraces = false) (hG : jGok G) (hP : ProgR [] mu) : jCv l G yX8_colours cX8_colours 1 3 [.ref 58] mu (fun mu' => ProgR (bltn 4) mu' ∧ SmR [65] [9] mu mu') := by
  refine jCv.of (pad := 0) hl hG (by decide) (Nat.le_of_ble_eq_true rfl) (fun X h => ?_)
  show J l G X _ 1 0 [.ref 58] [] mu 0
  have hp := hP
  have hs : SmR [65] [9] mu mu := SmR.rfl'
  refine rX8_colours_0 h ?_
  refine rX8_colours_5 h (k_add hl hG hp (by decide) _ _ _ _) (by decide) (Nat.zero_le _) (fun m1 e1 => ?_)
  obtain ⟨hp, e2⟩ := e1
  have hs := hs.trans' e2
  refine rX8_colours_8 h ?_
  refine rX8_colours_13 h (k_add hl hG hp (by decide) _ _ _ _) (by decide) (Nat.zero_le _) (fun m1 e1 => ?_)
  obtain ⟨hp, e2⟩ := e1
  have hs := hs.trans' e2
  refine rX8_colours_16 h ?_
  refine rX8_colours_23 h (k_add hl hG hp (by decide) _ _ _ _) (by decide) (Nat.zero_le _) (fun m1 e1 => ?_)
  obtain ⟨hp, e2⟩ := e1
  have hs := hs.trans' e2
  refine rX8_colours_26 h ?_
  refine rX8_colours_32 h (k_add hl hG hp (by decide) _ _ _ _) (by decide) (Nat.zero_le _) (fun m1 e1 => ?_)
  obtain ⟨hp, e2⟩ := e1
  have hs := hs.trans' e2
  refine rX8_colours_35 h ?_
  refine rX8_colours_42 h (k_add hl hG hp (by decide) _ _ _ _) (by decide) (Nat.zero_le _) (fun m1 e1 => ?_)
  obtain ⟨hp, e2⟩ := e1
  have hs := hs.trans' e2
  refine rX8_colours_45 h ?_
  refine rX8_colours_52 h (k_add hl hG hp (by decide) _ _ _ _) (by decide) (Nat.zero_le _) (fun m1 e1 => ?_)
  obtain ⟨hp, e2⟩ := e1
  have hs := hs.trans' e2
  refine rX8_colours_55 h ?_
  refine rX8_colours_61 h (k_add hl hG hp (by decide) _ _ _ _) (by decide) (Nat.zero_le _) (fun m1 e1 => ?_)
  obtain ⟨hp, e2⟩ := e1
  have hs := hs.trans' e2
  refine rX8_colours_64 h ?_
  refine rX8_colours_71 h (k_add hl hG hp (by decide) _ _ _ _) (by decide) (Nat.zero_le _) (fun m1 e1 => ?_)
  obtain ⟨hp, e2⟩ := e1
  have hs := hs.trans' e2
  refine rX8_colours_74 h ?_
  refine rX8_colours_81 h (k_add hl hG hp (by decide) _ _ _ _) (by decide) (Nat.zero_le _) (fun m1 e1 => ?_)
  obtain ⟨hp, e2⟩ := e1
  have hs := hs.trans' e2
  refine rX8_colours_84 h ?_
  refine rX8_colours_89 h (k_add hl hG hp (by decide) _ _ _ _) (by decide) (Nat.zero_le _) (fun m1 e1 => ?_)
  obtain ⟨hp, e2⟩ := e1
  have hs := hs.trans' e2
  refine rX8_colours_92 h ?_
  refine rX8_colours_98 h (k_add hl hG hp (by decide) _ _ _ _) (by decide) (Nat.zero_le _) (fun m1 e1 => ?_)
  obtain ⟨hp, e2⟩ := e1
  have hs := hs.trans' e2
  refine rX8_colours_101 h ?_
  refine rX8_colours_109 h (k_add hl hG hp (by decide) _ _ _ _) (by decide) (Nat.zero_le _) (fun m1 e1 => ?_)
  obtain ⟨hp, e2⟩ := e1
  have hs := hs.trans' e2
  refine rX8_colours_112 h ?_
  refine rX8_colours_118 h (k_add hl hG hp (by decide) _ _ _ _) (by decide) (Nat.zero_le _) (fun m1 e1 => ?_)
  obtain ⟨hp, e2⟩ := e1
  have hs := hs.trans' e2
  refine rX8_colours_121 h ?_
  refine rX8_colours_127 h (k_add hl hG hp (by decide) _ _ _ _) (by decide) (Nat.zero_le _) (fun m1 e1 => ?_)
  obtain ⟨hp, e2⟩ := e1
  have hs := hs.trans' e2
  refine rX8_colours_130 h ?_
  refine rX8_colours_137 h (k_add hl hG hp (by decide) _ _ _ _) (by decide) (Nat.zero_le _) (fun m1 e1 => ?_)
  obtain ⟨hp, e2⟩ := e1
  have hs := hs.trans' e2
  refine rX8_colours_140 h ?_
  refine rX8_colours_147 h (k_add hl hG hp (by decide) _ _ _ _) (by decide) (Nat.zero_le _) (fun m1 e1 => ?_)
  obtain ⟨hp, e2⟩ := e1
  have hs := hs.trans' e2
  refine rX8_colours_150 h ?_
  refine rX8_colours_157 h (k_add hl hG hp (by decide) _ _ _ _) (by decide) (Nat.zero_le _) (fun m1 e1 => ?_)
  obtain ⟨hp, e2⟩ := e1
  have hs := hs.trans' e2
  refine rX8_colours_160 h ?_
  refine rX8_colours_167 h (k_add hl hG hp (by decide) _ _ _ _) (by decide) (Nat.zero_le _) (fun m1 e1 => ?_)
  obtain ⟨hp, e2⟩ := e1
  have hs := hs.trans' e2
  refine rX8_colours_170 h ?_
  refine rX8_colours_175 h (k_add hl hG hp (by decide) _ _ _ _) (by decide) (Nat.zero_le _) (fun m1 e1 => ?_)
  obtain ⟨hp, e2⟩ := e1
  have hs := hs.trans' e2
  refine rX8_colours_178 h ?_
  refine rX8_colours_185 h (k_add hl hG hp (by decide) _ _ _ _) (by decide) (Nat.zero_le _) (fun m1 e1 => ?_)
  obtain ⟨hp, e2⟩ := e1
  have hs := hs.trans' e2
  refine rX8_colours_188 h ?_
  refine rX8_colours_195 h (k_add hl hG hp (by decide) _ _ _ _) (by decide) (Nat.zero_le _) (fun m1 e1 => ?_)
  obtain ⟨hp, e2⟩ := e1
  have hs := hs.trans' e2
  refine rX8_colours_198 h ?_
  refine rX8_colours_204 h (k_add hl hG hp (by decide) _ _ _ _) (by decide) (Nat.zero_le _) (fun m1 e1 => ?_)
  obtain ⟨hp, e2⟩ := e1
  have hs := hs.trans' e2
  refine rX8_colours_207 h ?_
  refine rX8_colours_213 h (k_add hl hG hp (by decide) _ _ _ _) (by decide) (Nat.zero_le _) (fun m1 e1 => ?_)
  obtain ⟨hp, e2⟩ := e1
  have hs := hs.trans' e2
  refine rX8_colours_216 h ?_
  refine rX8_colours_221 h (k_add hl hG hp (by decide) _ _ _ _) (by decide) (Nat.zero_le _) (fun m1 e1 => ?_)
  obtain ⟨hp, e2⟩ := e1
  have hs := hs.trans' e2
  refine rX8_colours_224 h ?_
  refine rX8_colours_232 h (k_add hl hG hp (by decide) _ _ _ _) (by decide) (Nat.zero_le _) (fun m1 e1 => ?_)
  obtain ⟨hp, e2⟩ := e1
  have hs := hs.trans' e2
  refine rX8_colours_235 h ?_
  refine rX8_colours_242 h (k_add hl hG hp (by decide) _ _ _ _) (by decide) (Nat.zero_le _) (fun m1 e1 => ?_)
  obtain ⟨hp, e2⟩ := e1
  have hs := hs.trans' e2
  refine rX8_colours_245 h ?_
  refine rX8_colours_251 h (k_add hl hG hp (by decide) _ _ _ _) (by decide) (Nat.zero_le _) (fun m1 e1 => ?_)
  obtain ⟨hp, e2⟩ := e1
  have hs := hs.trans' e2
  refine rX8_colours_254 h ?_
  refine rX8_colours_259 h (k_add hl hG hp (by decide) _ _ _ _) (by decide) (Nat.zero_le _) (fun m1 e1 => ?_)
  obtain ⟨hp, e2⟩ := e1
  have hs := hs.trans' e2
  refine rX8_colours_262 h ?_
  refine rX8_colours_268 h (k_add hl hG hp (by decide) _ _ _ _) (by decide) (Nat.zero_le _) (fun m1 e1 => ?_)
  obtain ⟨hp, e2⟩ := e1
  have hs := hs.trans' e2
  refine rX8_colours_271 h ?_
  refine rX8_colours_277 h (k_add hl hG hp (by decide) _ _ _ _) (by decide) (Nat.zero_le _) (fun m1 e1 => ?_)
  obtain ⟨hp, e2⟩ := e1
  have hs := hs.trans' e2
  refine rX8_colours_280 h ?_
  refine rX8_colours_286 h (k_add hl hG hp (by decide) _ _ _ _) (by decide) (Nat.zero_le _) (fun m1 e1 => ?_)
  obtain ⟨hp, e2⟩ := e1
  have hs := hs.trans' e2
  refine rX8_colours_289 h ?_
  refine rX8_colours_295 h (k_add hl hG hp (by decide) _ _ _ _) (by decide) (Nat.zero_le _) (fun m1 e1 => ?_)
  obtain ⟨hp, e2⟩ := e1
  have hs := hs.trans' e2
  exact J_vret h dX8_colours_298 (by exact ⟨hp, hs⟩)
theorem k_builtin (hl : l.stackTraces = false) (hG : jGok G) {run : Bool} {pr : List Wd} (hr : RunR run mu) (hP : ProgR pr mu) (x : Int32) : jCi l G yX8_builtin cX8_builtin 2 4 (some .int) [.ref 58, .int x] mu
    (fun v mu' => refX (cdBuilt run x) mu mu' ∧ (cdBuilt run x = 0 → v = nI (bltn x.toNatClampNeg).length ∧ ProgR (bltn x.toNatClampNeg) mu' ∧ SmR [65] [0, 9] mu mu')) := by
  refine jCi.of (pad := 0) hl hG (by decide) (Nat.le_of_ble_eq_true rfl) (fun X h => ?_)
  show J l G X _ 2 0 [.ref 58, .int x] [] mu 0
  have bad : ∀ k : Nat, cdBuilt run x = k → k ≠ 0 → (refX (cdBuilt run x) mu (wr mu 58 0 (nI k)) ∧ (cdBuilt run x = 0 → (0 : Int32) = nI (bltn x.toNatClampNeg).length ∧ ProgR (bltn x.toNatClampNeg) (wr mu 58 0 (nI k)) ∧ SmR [65] [0, 9] mu (wr mu 58 0 (nI k)))) :=
    fun k hk h0 => ⟨refX.of hk, fun z => absurd (hk ▸ z) h0⟩
  have c0 : ∀ j : Nat, j < 5 → x = nI j → mu 58 18 = 0 → ∀ m1 : jM, ProgR (bltn j) m1 ∧ SmR [65] [9] (wr (wr mu 58 0 0) 58 9 0) m1 → J l G X (jRi G X (fun v mu' => refX (cdBuilt run x) mu mu' ∧ (cdBuilt run x = 0 → v = nI (bltn x.toNatClampNeg).length ∧ ProgR (bltn x.toNatClampNeg) mu' ∧ SmR [65] [0, 9] mu mu'))) 2 94 [.ref 58, .int x] [] m1 0 := by
    intro j hj hx hr0 m1 e1
    refine rX8_builtin_94 h ?_
    rw [e1.1.1]
    have hcd : cdBuilt run x = 0 := by
      unfold cdBuilt
      rw [if_neg (by subst hx; exact fun z => z.elim (fun z => nI_pos (n := j) (by omega) z) (fun z => absurd ((nI_ltI (a := 4) (by omega) (by omega)).mp z) (by omega))), hr.no hr0]; rfl
    have s1 : SmR [65] [0, 9] mu m1 := ((SmR.fld (by decide)).trans' (SmR.fld (by decide))).trans' (e1.2.wide (by decide) (by decide))
    refine J_iret h dX8_builtin_98 rfl ⟨⟨?_, fun z => absurd hcd z⟩, fun _ => ?_⟩
    · rw [e1.2.2 0 (by decide), hcd]; rfl
    · rw [hx, nI_clamp (by omega)]
      exact ⟨rfl, e1.1, s1⟩
  have p0 : ProgR [] (wr (wr mu 58 0 0) 58 9 0) := ⟨rfl, fun i w hw => by simp at hw⟩
  refine rX8_builtin_0 h (fun q => ?_) (fun q1 q2 q3 q4 q5 q6 q7 => ?_) (fun q1 q2 q3 q4 q5 q6 q7 => ?_) (fun q1 q2 q3 q4 q5 q6 => ?_) (fun q1 q2 q3 q4 q5 => ?_) (fun q1 q2 q3 q4 => ?_) (fun q1 q2 q3 => ?_) (fun q1 q2 => ?_)
  · exact J_iret h dX8_builtin_37 rfl (bad 1 (by unfold cdBuilt; rw [if_pos (Or.inl q)]) (by decide))
  · have hx : x = nI 4 := by show x = 4; grind
    exact rX8_builtin_91 h (k_colours hl hG p0) (by decide) (Nat.zero_le _) (fun m1 e1 => c0 4 (by decide) hx q3 m1 e1)
  · exact rX8_builtin_84 h (k_walks hl hG p0) (by decide) (Nat.zero_le _) (fun m1 e1 => rX8_builtin_87 h (c0 3 (by decide) q7 q3 m1 e1))
  · exact rX8_builtin_72 h (k_cells hl hG p0) (by decide) (Nat.zero_le _) (fun m1 e1 => rX8_builtin_75 h (c0 2 (by decide) q6 q3 m1 e1))
  · exact rX8_builtin_60 h (k_leasts hl hG p0) (by decide) (Nat.zero_le _) (fun m1 e1 => rX8_builtin_63 h (c0 1 (by decide) q5 q3 m1 e1))
  · exact rX8_builtin_48 h (k_layers hl hG p0) (by decide) (Nat.zero_le _) (fun m1 e1 => rX8_builtin_51 h (c0 0 (by decide) q4 q3 m1 e1))
  · exact J_iret h dX8_builtin_37 rfl (bad 2 (by unfold cdBuilt; rw [if_neg (by grind), hr.yes q3]; rfl) (by decide))
  · exact J_iret h dX8_builtin_37 rfl (bad 1 (by unfold cdBuilt; rw [if_pos (Or.inr (by grind))]) (by decide))
end C36
