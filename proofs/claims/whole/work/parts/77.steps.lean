/-! ===== printed by wip/whole/steps.py: the cases of the law's loop ===== -/
theorem rf_net {run : Bool} {x : Int32} (h : cdNet run x = 0) : run = false := by
  cases run
  · rfl
  · unfold cdNet at h
    grind
theorem rf_link {n : Nat} {lk : Lk} {run : Bool} {x y : Int32} (h : cdLink n lk run x y = 0) : run = false := by
  cases run
  · rfl
  · unfold cdLink at h
    grind
theorem rf_word {n : Nat} {run : Bool} {x : Int32} (h : cdWord n run x = 0) : run = false := by
  cases run
  · rfl
  · unfold cdWord at h
    grind
theorem rf_built {run : Bool} {x : Int32} (h : cdBuilt run x = 0) : run = false := by
  cases run
  · rfl
  · unfold cdBuilt at h
    grind
theorem rf_cut {n : Nat} {run : Bool} {x : Int32} (h : cdCut n run x = 0) : run = false := by
  cases run
  · rfl
  · unfold cdCut at h
    grind
theorem rt_stop {n : Nat} {run : Bool} {x : Int32} (h : cdStop run n x = 0) : run = true := by
  cases run
  · unfold cdStop at h
    grind
  · rfl
theorem rt_del {n : Nat} {run : Bool} {x : Int32} (h : cdDel run n x = 0) : run = true := by
  cases run
  · unfold cdDel at h
    grind
  · rfl
theorem rt_let {n : Nat} {run : Bool} {x y : Int32} (h : cdLet run n x y = 0) : run = true := by
  cases run
  · unfold cdLet at h
    grind
  · rfl
theorem rt_all {run : Bool} {x y : Int32} (h : cdAll run x y = 0) : run = true := by
  cases run
  · unfold cdAll at h
    grind
  · rfl
theorem rt_sw {n : Nat} {run : Bool} {x : Int32} (h : cdSw run n x = 0) : run = true := by
  cases run
  · unfold cdSw at h
    grind
  · rfl
theorem rg_sw {n : Nat} {run : Bool} {x : Int32} (h : cdSw run n x = 0) : n ≠ 9 := by
  unfold cdSw at h
  grind
theorem rg_stop {n : Nat} {x : Int32} (hn : n ≤ 500) (h : cdStop true n x = 0) : n ≤ x.toNatClampNeg ∧ x.toNatClampNeg ≤ 500 := by
  have h2 : ¬ (500 < x ∨ x < nI n) := by
    unfold cdStop at h
    grind
  have q1 : ¬ 500 < x := fun q => h2 (Or.inl q)
  have q2 : nI n ≤ x := i_nlt (fun q => h2 (Or.inr q))
  have hx0 : ¬ x < 0 := fun z => by
    have h1 : nI n < 0 := Int32.lt_of_le_of_lt q2 z
    exact nI_nn (by omega) h1
  obtain ⟨k, hk, rfl⟩ := nI_of2 (M := 500) (n := 500) rfl hx0 (i_nlt q1)
  rw [nI_leI (by omega) (by omega)] at q2
  rw [nI_clamp (by omega)]
  exact ⟨q2, hk⟩
theorem rg_prep {pr : List Wd} {lk : Lk} {k : Nat} {run : Bool} {x y : Int32} (h : cdPrep run (@decide (Valid pr ∧ conn lk k) (Classical.propDecidable _)) x y = 0) : Valid pr ∧ conn lk k := by
  apply Classical.byContradiction
  intro hn
  rw [@decide_eq_false _ (Classical.propDecidable _) hn] at h
  unfold cdPrep at h
  cases run <;> grind
theorem bl_built {run : Bool} {x : Int32} (h : cdBuilt run x = 0) : (bltn x.toNatClampNeg).length ≤ 64 := by
  have h2 : ¬ (x < 0 ∨ 4 < x) := by
    unfold cdBuilt at h
    grind
  obtain ⟨k, hk, rfl⟩ := nI_of2 (M := 4) (n := 4) rfl (fun q => h2 (Or.inl q)) (i_nlt (fun q => h2 (Or.inr q)))
  rw [nI_clamp (by omega)]
  have := (bltn_len k (by omega)).1
  omega
theorem up_eq {f g : Nat → Int32} {i j : Nat} {v : Int32} (h : f j = g j) : upd f i v j = upd g i v j := by
  unfold upd
  rw [h]
theorem ext_rs0 {inp : Nat → Int32} {v : Nat} (h : v ≤ 2) : Ext (rs0 inp v) := ⟨Nat.zero_le _, Nat.le_refl _, Nat.le_of_ble_eq_true rfl, fun e he => by
  obtain rfl := List.mem_singleton.mp he
  exact ⟨Nat.zero_le _, h⟩, fun e he => by
  cases he
  rfl⟩
theorem ro_at {mu : jM} {v : Int32} : wr (wr mu 93 0 v) 58 0 0 93 0 = v := by
  rw [rd_ne _ _ _ (by decide)]
  exact out_at mu v
theorem gr_ro {n : Nat} {lk : Lk} {pr : List Wd} {run : Bool} {p : Nat} {s : RS} {inp pl : Nat → Int32} {mu : jM} (hA : GA n lk pr run p s) (hC : GC n lk pr run p s inp pl mu) (hM : GM n lk pr run p s inp pl mu) (v : Int32) : GR (wr (wr mu 93 0 v) 58 0 0) :=
  GR.keep hA hC hM (fun c q1 q2 => by rw [rd_ne _ _ _ q1, rd_ne _ _ _ q2]) (fun f q => if_neg q)
theorem pl_eq {n : Nat} {lk : Lk} {pr : List Wd} {run : Bool} {p : Nat} {s : RS} {inp pl : Nat → Int32} {mu : jM} (hn : n ≤ 24) (hC : GC n lk pr run p s inp pl mu) (hM : GM n lk pr run p s inp pl mu) {x y : Int32} (h : cdPlain n x y = 0) {v : Int32} : mu 15 (x.toNatClampNeg * 8 + y.toNatClampNeg) = wr mu 93 0 v 64 (x.toNatClampNeg * 8 + y.toNatClampNeg) := by
  have h1 : isNd n x := by
    unfold cdPlain at h
    grind
  have h2 : isRg y := by
    unfold cdPlain at h
    grind
  obtain ⟨a, ha, rfl⟩ := h1.nat hn
  obtain ⟨b, hb, rfl⟩ := h2.nat
  rw [nI_clamp (by omega), nI_clamp (by omega), rd_ne _ _ _ (by decide), (hC.2.2.2.1 _ (by omega)).2, (hM.2.2.2.1 _ (by omega)).2]
section C77
variable {l : Launch} {G : jG} {X : jX} {Q : State → Prop} {n nc L : Nat} {ret : Option FieldType} {mu : jM} {xs : Nat → Int32}
theorem J_wide {hg nL pc m : Nat} {cc : ByteArray} {own : String} {ls st : List Value} (hm : n ≤ m) (hn : m ≤ nc) (h : jOk l G X cc nL ret own hg nc) (hJ : J l G X Q nL pc ls st mu m) : J l G X Q nL pc ls st mu n := by
  obtain ⟨⟨p, e, R, s⟩, k, args, below, meth, c⟩ := X
  intro H locs Ls hP hS hL
  exact W.widen hm (by omega) (hJ H locs Ls hP hS hL)
theorem l_net {x4 : Int32} {v5 v6 : Value} (hl : l.stackTraces = false) (hG : jGok G) (h : jOk l G X cL_law 7 ret RL 11 nc) (hsc : jScr G X L xs) (s1 : vp_in (x4 + 1) L) (s2 : vp_in (x4 + 2) L) (s3 : vp_in (x4 + 3) L) (s4 : vp_in (x4 + 4) L) (s5 : vp_in (x4 + 5) L) (hn : n + 6 ≤ nc) (hR : GR mu) (kk : ∀ mu' w5 w6, GR mu' → J l G X Q 7 1338 [.ref 2000, .ref 0, .ref 58, .ref 93, .int x4, w5, w6] [] mu' (n + 6)) :
    J l G X Q 7 144 [.ref 2000, .ref 0, .ref 58, .ref 93, .int x4, v5, v6] [] mu n := by
  obtain ⟨k, lk, pr, run, p, s, inp, pl, hA, hC, hM⟩ := hR
  refine rL_law_144 h hsc s1 ?_
  refine rL_law_151 h hsc (w_net hl hG (c_net hl hG hC.2.2.1 (xs (x4 + 1).toNatClampNeg)) (fun _ q => q.1)) (by decide) hn (fun k1 m1 e1 => ?_)
  obtain ⟨rfl, e0, en⟩ := e1
  refine rL_law_154 h hsc s1 ?_
  have hM1 : GM k lk pr run p s inp pl m1 := by
    rcases Nat.eq_zero_or_pos (cdNet run (xs (x4 + 1).toNatClampNeg)) with hcd | hcd
    · exact hM.past (e0 hcd).2.2.2.2 (by decide)
    · rw [en (by omega)]
      exact hM
  refine rL_law_163 h hsc (k_net hl hG hM1.2.2.1 (xs (x4 + 1).toNatClampNeg)) (by decide) hn (fun m2 e2 => ?_)
  obtain ⟨⟨t0, t1⟩, t2⟩ := e2
  have hgr : GR m2 := by
    rcases Nat.eq_zero_or_pos (cdNet run (xs (x4 + 1).toNatClampNeg)) with hcd | hcd
    · obtain ⟨-, ⟨n1, a1, a2, a3, a4⟩, z13, z15, sm⟩ := e0 hcd
      obtain ⟨⟨n2, b1, b2, b3, b4⟩, z63, z64, sr⟩ := t2 hcd
      obtain rfl := nI_inj2 (a3.symm.trans b3) (by omega) (by omega)
      have hr := rf_net hcd
      subst hr
      have C1 : GC n1 [] pr false p s (fun _ => 0) (fun _ => 0) m1 := GC.mk0 a4 (hC.2.1.same sm (by decide)) (hC.2.2.1.same sm (by decide)) (fun j hj => ⟨z13 j hj, z15 j hj⟩)
      exact ⟨n1, [], pr, false, p, s, _, _, GA.mk0 (netok_nil a1) hA.2.1, C1.past sr (by decide), GM.mk0 b4 (hM1.2.1.same sr (by decide) (by decide)) (hM1.2.2.1.same sr (by decide)) (fun j hj => ⟨z63 j hj, z64 j hj⟩)⟩
    · have hne : ¬ cdNet run (xs (x4 + 1).toNatClampNeg) = 0 := by omega
      obtain rfl := en hne
      exact GR.stay hA hC hM (fun _ _ => rfl) (t1 hne)
  refine rL_law_166 h hsc ?_
  refine rL_law_167 h hsc (k_thrown hl hG) (by decide) hn (fun v m3 e3 => ?_)
  obtain ⟨rfl, rfl⟩ := e3
  exact rL_law_170 h hsc (fun _ => kk _ _ _ hgr) (fun q => absurd t0 q)
theorem l_link {x4 : Int32} {v5 v6 : Value} (hl : l.stackTraces = false) (hG : jGok G) (h : jOk l G X cL_law 7 ret RL 11 nc) (hsc : jScr G X L xs) (s1 : vp_in (x4 + 1) L) (s2 : vp_in (x4 + 2) L) (s3 : vp_in (x4 + 3) L) (s4 : vp_in (x4 + 4) L) (s5 : vp_in (x4 + 5) L) (hn : n + 6 ≤ nc) (hR : GR mu) (kk : ∀ mu' w5 w6, GR mu' → J l G X Q 7 1338 [.ref 2000, .ref 0, .ref 58, .ref 93, .int x4, w5, w6] [] mu' (n + 6)) :
    J l G X Q 7 180 [.ref 2000, .ref 0, .ref 58, .ref 93, .int x4, v5, v6] [] mu n := by
  obtain ⟨k, lk, pr, run, p, s, inp, pl, hA, hC, hM⟩ := hR
  refine rL_law_180 h hsc s1 s2 ?_
  refine rL_law_194 h hsc (w_link hl hG (c_link hl hG hC.2.2.1 hA.1 hC.1 (xs (x4 + 1).toNatClampNeg) (xs (x4 + 2).toNatClampNeg)) (fun _ _ q => q.1)) (by decide) hn (fun k1 m1 e1 => ?_)
  obtain ⟨rfl, e0, en⟩ := e1
  refine rL_law_197 h hsc s1 s2 ?_
  have hM1 : GM k lk pr run p s inp pl m1 := by
    rcases Nat.eq_zero_or_pos (cdLink k lk run (xs (x4 + 1).toNatClampNeg) (xs (x4 + 2).toNatClampNeg)) with hcd | hcd
    · obtain ⟨v, mu1, q, rfl⟩ := e0 hcd
      exact hM.past (same_out q.2.2.2.2 v) (by decide)
    · rw [en (by omega)]
      exact hM
  refine rL_law_212 h hsc (k_link hl hG hM1.2.2.1 hA.1 hM1.1 (xs (x4 + 1).toNatClampNeg) (xs (x4 + 2).toNatClampNeg)) (by decide) hn (fun v2 m2 e2 => ?_)
  obtain ⟨⟨t0, t1⟩, t2⟩ := e2
  have hgr : GR m2 ∧ (cdLink k lk run (xs (x4 + 1).toNatClampNeg) (xs (x4 + 2).toNatClampNeg) = 0 → m2 93 0 = v2) := by
    rcases Nat.eq_zero_or_pos (cdLink k lk run (xs (x4 + 1).toNatClampNeg) (xs (x4 + 2).toNatClampNeg)) with hcd | hcd
    · obtain ⟨v, mu1, ⟨-, hv, hN1, hok1, sm⟩, rfl⟩ := e0 hcd
      obtain ⟨hv2, hN2, sr⟩ := t2 hcd
      have hr := rf_link hcd
      subst hr
      have C1 := GC.mk0 (p := p) (s := s) hN1 (hC.2.1.same sm (by decide)) (hC.2.2.1.same sm (by decide)) (fun j hj => by rw [sm 13 (by decide), sm 15 (by decide)]; exact hC.2.2.2.1 j hj)
      exact ⟨⟨k, _, pr, false, p, s, inp, pl, GA.mk0 hok1 hA.2.1, (C1.out v).past sr (by decide), GM.mk0 hN2 (hM1.2.1.same sr (by decide) (by decide)) (hM1.2.2.1.same sr (by decide)) (fun j hj => by rw [sr.1 63 (by decide) (by decide), sr.1 64 (by decide) (by decide)]; exact hM1.2.2.2.1 j hj)⟩, fun _ => by rw [sr.1 93 (by decide) (by decide), out_at, hv, hv2]⟩
    · have hne : ¬ cdLink k lk run (xs (x4 + 1).toNatClampNeg) (xs (x4 + 2).toNatClampNeg) = 0 := by omega
      obtain rfl := en hne
      exact ⟨GR.stay hA hC hM (fun _ _ => rfl) (t1 hne), fun z => absurd z hne⟩
  refine rL_law_215 h hsc ?_
  refine rL_law_218 h hsc (k_thrown hl hG) (by decide) hn (fun v m3 e3 => ?_)
  obtain ⟨rfl, rfl⟩ := e3
  refine rL_law_221 h hsc (fun _ _ => ?_) (fun _ _ _ => ?_) (fun _ q z => absurd ?_ z) (fun q => absurd t0 q)
  · exact rL_law_245 h hsc (kk _ _ _ hgr.1)
  · exact rL_law_245 h hsc (kk _ _ _ hgr.1)
  · rw [show m3 93 (0 : Int32).toNatClampNeg = v2 from hgr.2 (nz_cd (by unfold cdLink; (repeat' split) <;> omega) q)]
    exact lg_self _
theorem l_word {x4 : Int32} {v5 v6 : Value} (hl : l.stackTraces = false) (hG : jGok G) (h : jOk l G X cL_law 7 ret RL 11 nc) (hsc : jScr G X L xs) (s1 : vp_in (x4 + 1) L) (s2 : vp_in (x4 + 2) L) (s3 : vp_in (x4 + 3) L) (s4 : vp_in (x4 + 4) L) (s5 : vp_in (x4 + 5) L) (hn : n + 6 ≤ nc) (hR : GR mu) (kk : ∀ mu' w5 w6, GR mu' → J l G X Q 7 1338 [.ref 2000, .ref 0, .ref 58, .ref 93, .int x4, w5, w6] [] mu' (n + 6)) :
    J l G X Q 7 248 [.ref 2000, .ref 0, .ref 58, .ref 93, .int x4, v5, v6] [] mu n := by
  obtain ⟨k, lk, pr, run, p, s, inp, pl, hA, hC, hM⟩ := hR
  refine rL_law_248 h hsc s1 s2 s3 s4 s5 ?_
  refine rL_law_280 h hsc (w_word hl hG (c_word hl hG hC.2.2.1 hC.2.1 hA.2.1 (xs (x4 + 1).toNatClampNeg) ((xs (x4 + 2).toNatClampNeg), (xs (x4 + 3).toNatClampNeg), (xs (x4 + 4).toNatClampNeg), (xs (x4 + 5).toNatClampNeg))) (fun _ _ q => q.1)) (by decide) hn (fun k1 m1 e1 => ?_)
  obtain ⟨rfl, e0, en⟩ := e1
  refine rL_law_283 h hsc s1 s2 s3 s4 s5 ?_
  have hM1 : GM k lk pr run p s inp pl m1 := by
    rcases Nat.eq_zero_or_pos (cdWord pr.length run (xs (x4 + 1).toNatClampNeg)) with hcd | hcd
    · obtain ⟨v, mu1, q, rfl⟩ := e0 hcd
      exact hM.past (same_out q.2.2.2 v) (by decide)
    · rw [en (by omega)]
      exact hM
  refine rL_law_316 h hsc (k_word hl hG hM1.2.2.1 hM1.2.1 hA.2.1 (xs (x4 + 1).toNatClampNeg) ((xs (x4 + 2).toNatClampNeg), (xs (x4 + 3).toNatClampNeg), (xs (x4 + 4).toNatClampNeg), (xs (x4 + 5).toNatClampNeg))) (by decide) hn (fun v2 m2 e2 => ?_)
  obtain ⟨⟨t0, t1⟩, t2⟩ := e2
  have hgr : GR m2 ∧ (cdWord pr.length run (xs (x4 + 1).toNatClampNeg) = 0 → m2 93 0 = v2) := by
    rcases Nat.eq_zero_or_pos (cdWord pr.length run (xs (x4 + 1).toNatClampNeg)) with hcd | hcd
    · obtain ⟨v, mu1, ⟨-, hv, hP1, sm⟩, rfl⟩ := e0 hcd
      obtain ⟨hv2, hP2, hlen, sr⟩ := t2 hcd
      have hr := rf_word hcd
      subst hr
      have C1 := GC.mk0 (p := p) (s := s) (hC.1.same sm (by decide)) hP1 (hC.2.2.1.same sm (by decide)) (fun j hj => by rw [sm 13 (by decide), sm 15 (by decide)]; exact hC.2.2.2.1 j hj)
      exact ⟨⟨k, lk, _, false, p, s, inp, pl, GA.mk0 hA.1 hlen, (C1.out v).past sr (by decide), GM.mk0 (hM1.1.same sr (by decide) (by decide)) hP2 (hM1.2.2.1.same sr (by decide)) (fun j hj => by rw [sr.1 63 (by decide) (by decide), sr.1 64 (by decide) (by decide)]; exact hM1.2.2.2.1 j hj)⟩, fun _ => by rw [sr.1 93 (by decide) (by decide), out_at, hv, hv2]⟩
    · have hne : ¬ cdWord pr.length run (xs (x4 + 1).toNatClampNeg) = 0 := by omega
      obtain rfl := en hne
      exact ⟨GR.stay hA hC hM (fun _ _ => rfl) (t1 hne), fun z => absurd z hne⟩
  refine rL_law_319 h hsc ?_
  refine rL_law_322 h hsc (k_thrown hl hG) (by decide) hn (fun v m3 e3 => ?_)
  obtain ⟨rfl, rfl⟩ := e3
  refine rL_law_325 h hsc (fun _ _ => ?_) (fun _ _ _ => ?_) (fun _ q z => absurd ?_ z) (fun q => absurd t0 q)
  · exact rL_law_349 h hsc (kk _ _ _ hgr.1)
  · exact rL_law_349 h hsc (kk _ _ _ hgr.1)
  · rw [show m3 93 (0 : Int32).toNatClampNeg = v2 from hgr.2 (nz_cd (by unfold cdWord; (repeat' split) <;> omega) q)]
    exact lg_self _
theorem l_builtin {x4 : Int32} {v5 v6 : Value} (hl : l.stackTraces = false) (hG : jGok G) (h : jOk l G X cL_law 7 ret RL 11 nc) (hsc : jScr G X L xs) (s1 : vp_in (x4 + 1) L) (s2 : vp_in (x4 + 2) L) (s3 : vp_in (x4 + 3) L) (s4 : vp_in (x4 + 4) L) (s5 : vp_in (x4 + 5) L) (hn : n + 6 ≤ nc) (hR : GR mu) (kk : ∀ mu' w5 w6, GR mu' → J l G X Q 7 1338 [.ref 2000, .ref 0, .ref 58, .ref 93, .int x4, w5, w6] [] mu' (n + 6)) :
    J l G X Q 7 352 [.ref 2000, .ref 0, .ref 58, .ref 93, .int x4, v5, v6] [] mu n := by
  obtain ⟨k, lk, pr, run, p, s, inp, pl, hA, hC, hM⟩ := hR
  refine rL_law_352 h hsc s1 ?_
  refine rL_law_360 h hsc (w_builtin hl hG (c_builtin hl hG hC.2.2.1 (xs (x4 + 1).toNatClampNeg)) (fun _ _ q => q.1)) (by decide) hn (fun k1 m1 e1 => ?_)
  obtain ⟨rfl, e0, en⟩ := e1
  refine rL_law_363 h hsc s1 ?_
  have hM1 : GM k lk pr run p s inp pl m1 := by
    rcases Nat.eq_zero_or_pos (cdBuilt run (xs (x4 + 1).toNatClampNeg)) with hcd | hcd
    · obtain ⟨v, mu1, q, rfl⟩ := e0 hcd
      exact hM.past (same_out q.2.2.2 v) (by decide)
    · rw [en (by omega)]
      exact hM
  refine rL_law_372 h hsc (k_builtin hl hG hM1.2.2.1 hM1.2.1 (xs (x4 + 1).toNatClampNeg)) (by decide) hn (fun v2 m2 e2 => ?_)
  obtain ⟨⟨t0, t1⟩, t2⟩ := e2
  have hgr : GR m2 ∧ (cdBuilt run (xs (x4 + 1).toNatClampNeg) = 0 → m2 93 0 = v2) := by
    rcases Nat.eq_zero_or_pos (cdBuilt run (xs (x4 + 1).toNatClampNeg)) with hcd | hcd
    · obtain ⟨v, mu1, ⟨-, hv, hP1, sm⟩, rfl⟩ := e0 hcd
      obtain ⟨hv2, hP2, sr⟩ := t2 hcd
      have hlen := bl_built hcd
      have hr := rf_built hcd
      subst hr
      have C1 := GC.mk0 (p := p) (s := s) (hC.1.same sm (by decide)) hP1 (hC.2.2.1.same sm (by decide)) (fun j hj => by rw [sm 13 (by decide), sm 15 (by decide)]; exact hC.2.2.2.1 j hj)
      exact ⟨⟨k, lk, _, false, p, s, inp, pl, GA.mk0 hA.1 hlen, (C1.out v).past sr (by decide), GM.mk0 (hM1.1.same sr (by decide) (by decide)) hP2 (hM1.2.2.1.same sr (by decide)) (fun j hj => by rw [sr.1 63 (by decide) (by decide), sr.1 64 (by decide) (by decide)]; exact hM1.2.2.2.1 j hj)⟩, fun _ => by rw [sr.1 93 (by decide) (by decide), out_at, hv, hv2]⟩
    · have hne : ¬ cdBuilt run (xs (x4 + 1).toNatClampNeg) = 0 := by omega
      obtain rfl := en hne
      exact ⟨GR.stay hA hC hM (fun _ _ => rfl) (t1 hne), fun z => absurd z hne⟩
  refine rL_law_375 h hsc ?_
  refine rL_law_378 h hsc (k_thrown hl hG) (by decide) hn (fun v m3 e3 => ?_)
  obtain ⟨rfl, rfl⟩ := e3
  refine rL_law_381 h hsc (fun _ _ => ?_) (fun _ _ _ => ?_) (fun _ q z => absurd ?_ z) (fun q => absurd t0 q)
  · exact rL_law_405 h hsc (kk _ _ _ hgr.1)
  · exact rL_law_405 h hsc (kk _ _ _ hgr.1)
  · rw [show m3 93 (0 : Int32).toNatClampNeg = v2 from hgr.2 (nz_cd (by unfold cdBuilt; (repeat' split) <;> omega) q)]
    exact lg_self _
theorem l_cutAt {x4 : Int32} {v5 v6 : Value} (hl : l.stackTraces = false) (hG : jGok G) (h : jOk l G X cL_law 7 ret RL 11 nc) (hsc : jScr G X L xs) (s1 : vp_in (x4 + 1) L) (s2 : vp_in (x4 + 2) L) (s3 : vp_in (x4 + 3) L) (s4 : vp_in (x4 + 4) L) (s5 : vp_in (x4 + 5) L) (hn : n + 6 ≤ nc) (hR : GR mu) (kk : ∀ mu' w5 w6, GR mu' → J l G X Q 7 1338 [.ref 2000, .ref 0, .ref 58, .ref 93, .int x4, w5, w6] [] mu' (n + 6)) :
    J l G X Q 7 408 [.ref 2000, .ref 0, .ref 58, .ref 93, .int x4, v5, v6] [] mu n := by
  obtain ⟨k, lk, pr, run, p, s, inp, pl, hA, hC, hM⟩ := hR
  refine rL_law_408 h hsc s1 ?_
  refine rL_law_415 h hsc (w_cutAt hl hG (c_cutAt hl hG hC.2.2.1 hC.2.1 hA.2.1 (xs (x4 + 1).toNatClampNeg)) (fun _ q => q.1)) (by decide) hn (fun k1 m1 e1 => ?_)
  obtain ⟨rfl, e0, en⟩ := e1
  refine rL_law_418 h hsc s1 ?_
  have hM1 : GM k lk pr run p s inp pl m1 := by
    rcases Nat.eq_zero_or_pos (cdCut pr.length run (xs (x4 + 1).toNatClampNeg)) with hcd | hcd
    · exact hM.past (e0 hcd).2.2 (by decide)
    · rw [en (by omega)]
      exact hM
  refine rL_law_427 h hsc (k_cutAt hl hG hM1.2.2.1 hM1.2.1 hA.2.1 (xs (x4 + 1).toNatClampNeg)) (by decide) hn (fun m2 e2 => ?_)
  obtain ⟨⟨t0, t1⟩, t2⟩ := e2
  have hgr : GR m2 := by
    rcases Nat.eq_zero_or_pos (cdCut pr.length run (xs (x4 + 1).toNatClampNeg)) with hcd | hcd
    · obtain ⟨-, hP1, sm⟩ := e0 hcd
      obtain ⟨hP2, sr⟩ := t2 hcd
      have hr := rf_cut hcd
      subst hr
      have C1 := GC.mk0 (p := p) (s := s) (hC.1.same sm (by decide)) hP1 (hC.2.2.1.same sm (by decide)) (fun j hj => by rw [sm 13 (by decide), sm 15 (by decide)]; exact hC.2.2.2.1 j hj)
      exact ⟨k, lk, _, false, p, s, inp, pl, GA.mk0 hA.1 (by rw [List.length_take]; have := hA.2.1; omega), C1.past sr (by decide), GM.mk0 (hM1.1.same sr (by decide) (by decide)) hP2 (hM1.2.2.1.same sr (by decide)) (fun j hj => by rw [sr.1 63 (by decide) (by decide), sr.1 64 (by decide) (by decide)]; exact hM1.2.2.2.1 j hj)⟩
    · have hne : ¬ cdCut pr.length run (xs (x4 + 1).toNatClampNeg) = 0 := by omega
      obtain rfl := en hne
      exact GR.stay hA hC hM (fun _ _ => rfl) (t1 hne)
  refine rL_law_430 h hsc ?_
  refine rL_law_431 h hsc (k_thrown hl hG) (by decide) hn (fun v m3 e3 => ?_)
  obtain ⟨rfl, rfl⟩ := e3
  exact rL_law_434 h hsc (fun _ => kk _ _ _ hgr) (fun q => absurd t0 q)
theorem l_check {x4 : Int32} {v5 v6 : Value} (hl : l.stackTraces = false) (hG : jGok G) (h : jOk l G X cL_law 7 ret RL 11 nc) (hsc : jScr G X L xs) (s1 : vp_in (x4 + 1) L) (s2 : vp_in (x4 + 2) L) (s3 : vp_in (x4 + 3) L) (s4 : vp_in (x4 + 4) L) (s5 : vp_in (x4 + 5) L) (hn : n + 6 ≤ nc) (hR : GR mu) (kk : ∀ mu' w5 w6, GR mu' → J l G X Q 7 1338 [.ref 2000, .ref 0, .ref 58, .ref 93, .int x4, w5, w6] [] mu' (n + 6)) :
    J l G X Q 7 444 [.ref 2000, .ref 0, .ref 58, .ref 93, .int x4, v5, v6] [] mu n := by
  obtain ⟨k, lk, pr, run, p, s, inp, pl, hA, hC, hM⟩ := hR
  refine rL_law_444 h hsc ?_
  refine rL_law_445 h hsc (c_check hl hG hC.2.1 hA.2.1) (by decide) (by omega) (fun v m1 e1 => ?_)
  obtain ⟨e1, rfl⟩ := e1
  refine rL_law_448 h hsc ?_
  refine rL_law_449 h hsc (k_check hl hG hM.2.1 hA.2.1) (by decide) (by omega) (fun v2 m2 e2 => ?_)
  obtain ⟨e2, rfl⟩ := e2
  refine rL_law_452 h hsc (fun _ => ?_) (fun q => absurd (e1.one e2) q)
  have hw := kk (wr m1 58 0 0) v5 v6 (GR.keep hA hC hM (fun c q1 _ => rd_ne _ _ _ q1) (fun f q => if_neg q))
  exact J_wide (by omega) (by omega) h hw
theorem l_input {x4 : Int32} {v5 v6 : Value} (hl : l.stackTraces = false) (hG : jGok G) (h : jOk l G X cL_law 7 ret RL 11 nc) (hsc : jScr G X L xs) (s1 : vp_in (x4 + 1) L) (s2 : vp_in (x4 + 2) L) (s3 : vp_in (x4 + 3) L) (s4 : vp_in (x4 + 4) L) (s5 : vp_in (x4 + 5) L) (hn : n + 6 ≤ nc) (hR : GR mu) (kk : ∀ mu' w5 w6, GR mu' → J l G X Q 7 1338 [.ref 2000, .ref 0, .ref 58, .ref 93, .int x4, w5, w6] [] mu' (n + 6)) :
    J l G X Q 7 457 [.ref 2000, .ref 0, .ref 58, .ref 93, .int x4, v5, v6] [] mu n := by
  obtain ⟨k, lk, pr, run, p, s, inp, pl, hA, hC, hM⟩ := hR
  refine rL_law_457 h hsc s1 s2 s3 ?_
  refine rL_law_476 h hsc (w_input hl hG (c_input hl hG hC.2.2.1 hA.1.1 hC.1.1 (xs (x4 + 1).toNatClampNeg) (xs (x4 + 2).toNatClampNeg) (xs (x4 + 3).toNatClampNeg)) (fun _ q => q.1)) (by decide) hn (fun k1 m1 e1 => ?_)
  obtain ⟨rfl, e0, en⟩ := e1
  refine rL_law_479 h hsc s1 s2 s3 ?_
  have hM1 : GM k lk pr run p s inp pl m1 := by
    rcases Nat.eq_zero_or_pos (cdInput k run (xs (x4 + 1).toNatClampNeg) (xs (x4 + 2).toNatClampNeg)) with hcd | hcd
    · rw [(e0 hcd).2]
      exact hM.past (W := [13]) (Same.wr (by decide)) (by decide)
    · rw [en (by omega)]
      exact hM
  refine rL_law_500 h hsc (k_input hl hG hM1.2.2.1 hA.1.1 hM1.1.1 (xs (x4 + 1).toNatClampNeg) (xs (x4 + 2).toNatClampNeg) (xs (x4 + 3).toNatClampNeg)) (by decide) hn (fun m2 e2 => ?_)
  obtain ⟨⟨t0, t1⟩, t2⟩ := e2
  have hgr : GR m2 := by
    rcases Nat.eq_zero_or_pos (cdInput k run (xs (x4 + 1).toNatClampNeg) (xs (x4 + 2).toNatClampNeg)) with hcd | hcd
    · obtain ⟨-, rfl⟩ := e0 hcd
      have sr := t2 hcd
      subst sr
      exact ⟨k, lk, pr, run, p, s, upd inp _ _, pl, hA, hC.reg (fun c q1 q2 => by rw [rd_ne _ _ _ (by omega), rd_ne _ _ _ (by omega), rd_ne _ _ _ (by omega)]) (fun j hj => ⟨up_eq (hC.2.2.2.1 j hj).1, (hC.2.2.2.1 j hj).2⟩), hM.reg (fun c hc => by rw [rd_ne _ _ _ (by omega), rd_ne _ _ _ (by omega), rd_ne _ _ _ (by omega)]) (fun f q => if_neg q) (fun j hj => ⟨up_eq (hM.2.2.2.1 j hj).1, (hM.2.2.2.1 j hj).2⟩)⟩
    · have hne : ¬ cdInput k run (xs (x4 + 1).toNatClampNeg) (xs (x4 + 2).toNatClampNeg) = 0 := by omega
      obtain rfl := en hne
      exact GR.stay hA hC hM (fun _ _ => rfl) (t1 hne)
  refine rL_law_503 h hsc ?_
  refine rL_law_504 h hsc (k_thrown hl hG) (by decide) hn (fun v m3 e3 => ?_)
  obtain ⟨rfl, rfl⟩ := e3
  exact rL_law_507 h hsc (fun _ => kk _ _ _ hgr) (fun q => absurd t0 q)
theorem l_lockstep {x4 : Int32} {v5 v6 : Value} (hl : l.stackTraces = false) (hG : jGok G) (h : jOk l G X cL_law 7 ret RL 11 nc) (hsc : jScr G X L xs) (s1 : vp_in (x4 + 1) L) (s2 : vp_in (x4 + 2) L) (s3 : vp_in (x4 + 3) L) (s4 : vp_in (x4 + 4) L) (s5 : vp_in (x4 + 5) L) (hn : n + 6 ≤ nc) (hR : GR mu) (kk : ∀ mu' w5 w6, GR mu' → J l G X Q 7 1338 [.ref 2000, .ref 0, .ref 58, .ref 93, .int x4, w5, w6] [] mu' (n + 6)) :
    J l G X Q 7 517 [.ref 2000, .ref 0, .ref 58, .ref 93, .int x4, v5, v6] [] mu n := by
  obtain ⟨k, lk, pr, run, p, s, inp, pl, hA, hC, hM⟩ := hR
  refine J_norm63 (f := mu 13) (fun j hj => by rw [(hM.2.2.2.1 j hj).1, (hC.2.2.2.1 j hj).1]) ?_
  have h63 : (jPut mu 63 (mu 13)) 63 = (jPut mu 63 (mu 13)) 13 := rfl
  have hC : GC k lk pr run p s inp pl (jPut mu 63 (mu 13)) := hC.lo (fun c hc => put_ne _ _ (by omega))
  have hM : GM k lk pr run p s inp pl (jPut mu 63 (mu 13)) := hM.reg (fun c hc => put_ne _ _ (by omega)) (fun f _ => rfl) (fun j hj => ⟨(hC.2.2.2.1 j hj).1, (hM.2.2.2.1 j hj).2⟩)
  generalize jPut mu 63 (mu 13) = mu at h63 hC hM ⊢
  refine rL_law_517 h hsc s1 ?_
  refine rL_law_524 h hsc (w_lockstep hl hG (c_lockstep hl hG hA.1 hC.1 hC.2.1 hA.2.1 (ok := @decide (Valid pr) (Classical.propDecidable _)) (@decide_eq_true_iff _ (Classical.propDecidable _)) (xs (x4 + 1).toNatClampNeg)) (fun _ q => q.1)) (by decide) hn (fun k1 m1 e1 => ?_)
  obtain ⟨rfl, e0, en⟩ := e1
  refine rL_law_527 h hsc s1 ?_
  have hM1 : GM k lk pr run p s inp pl m1 := by
    rcases Nat.eq_zero_or_pos (cdLock (@decide (Valid pr) (Classical.propDecidable _)) (xs (x4 + 1).toNatClampNeg)) with hcd | hcd
    · exact hM.past (e0 hcd).2.2 (by decide)
    · rw [en (by omega)]
      exact hM
  refine rL_law_536 h hsc (k_lockstep hl hG hA.1 hM1.1 hM1.2.1 hA.2.1 (ok := @decide (Valid pr) (Classical.propDecidable _)) (@decide_eq_true_iff _ (Classical.propDecidable _)) (xs (x4 + 1).toNatClampNeg)) (by decide) hn (fun m2 e2 => ?_)
  obtain ⟨⟨t0, t1⟩, t2⟩ := e2
  have hgr : GR m2 := by
    rcases Nat.eq_zero_or_pos (cdLock (@decide (Valid pr) (Classical.propDecidable _)) (xs (x4 + 1).toNatClampNeg)) with hcd | hcd
    · obtain ⟨-, hp1, sm⟩ := e0 hcd
      obtain ⟨hp2, sr⟩ := t2 hcd
      have C1 := hC.reg (inp' := inp) (mu' := m1) (fun c q1 q2 => sm c (by simp; omega)) (fun j hj => ⟨by rw [sm 13 (by decide)]; exact (hC.2.2.2.1 j hj).1, hp1 j hj⟩)
      exact ⟨k, lk, pr, run, p, s, inp, _, hA, C1.past sr (by decide), hM1.reg (fun c hc => sr.1 c (by simp; omega) (by omega)) (fun f q => sr.2 f (by simp [q])) (fun j hj => ⟨by rw [sr.1 63 (by decide) (by decide)]; exact (hM1.2.2.2.1 j hj).1, by rw [hp2 j hj, sm 63 (by decide), h63]⟩)⟩
    · have hne : ¬ cdLock (@decide (Valid pr) (Classical.propDecidable _)) (xs (x4 + 1).toNatClampNeg) = 0 := by omega
      obtain rfl := en hne
      exact GR.stay hA hC hM (fun _ _ => rfl) (t1 hne)
  refine rL_law_539 h hsc ?_
  refine rL_law_540 h hsc (k_thrown hl hG) (by decide) hn (fun v m3 e3 => ?_)
  obtain ⟨rfl, rfl⟩ := e3
  exact rL_law_543 h hsc (fun _ => kk _ _ _ hgr) (fun q => absurd t0 q)
theorem l_plain {x4 : Int32} {v5 v6 : Value} (hl : l.stackTraces = false) (hG : jGok G) (h : jOk l G X cL_law 7 ret RL 11 nc) (hsc : jScr G X L xs) (s1 : vp_in (x4 + 1) L) (s2 : vp_in (x4 + 2) L) (s3 : vp_in (x4 + 3) L) (s4 : vp_in (x4 + 4) L) (s5 : vp_in (x4 + 5) L) (hn : n + 6 ≤ nc) (hR : GR mu) (kk : ∀ mu' w5 w6, GR mu' → J l G X Q 7 1338 [.ref 2000, .ref 0, .ref 58, .ref 93, .int x4, w5, w6] [] mu' (n + 6)) :
    J l G X Q 7 553 [.ref 2000, .ref 0, .ref 58, .ref 93, .int x4, v5, v6] [] mu n := by
  obtain ⟨k, lk, pr, run, p, s, inp, pl, hA, hC, hM⟩ := hR
  refine rL_law_553 h hsc s1 s2 ?_
  refine rL_law_567 h hsc (w_plain hl hG (c_plain hl hG hA.1.1 hC.1.1 (xs (x4 + 1).toNatClampNeg) (xs (x4 + 2).toNatClampNeg)) (fun _ _ q => q.1)) (by decide) hn (fun k1 m1 e1 => ?_)
  obtain ⟨rfl, e0, en⟩ := e1
  refine rL_law_570 h hsc s1 s2 ?_
  have hM1 : GM k lk pr run p s inp pl m1 := by
    rcases Nat.eq_zero_or_pos (cdPlain k (xs (x4 + 1).toNatClampNeg) (xs (x4 + 2).toNatClampNeg)) with hcd | hcd
    · obtain ⟨v, mu1, ⟨-, -, rfl⟩, rfl⟩ := e0 hcd
      exact hM.out v
    · rw [en (by omega)]
      exact hM
  refine rL_law_585 h hsc (k_plain hl hG hA.1.1 hM1.1.1 (xs (x4 + 1).toNatClampNeg) (xs (x4 + 2).toNatClampNeg)) (by decide) hn (fun v2 m2 e2 => ?_)
  obtain ⟨⟨t0, t1⟩, t2⟩ := e2
  have hgr : GR m2 ∧ (cdPlain k (xs (x4 + 1).toNatClampNeg) (xs (x4 + 2).toNatClampNeg) = 0 → m2 93 0 = v2) := by
    rcases Nat.eq_zero_or_pos (cdPlain k (xs (x4 + 1).toNatClampNeg) (xs (x4 + 2).toNatClampNeg)) with hcd | hcd
    · obtain ⟨v, mu1, ⟨-, hv, rfl⟩, rfl⟩ := e0 hcd
      obtain ⟨hv2, rfl⟩ := t2 hcd
      exact ⟨gr_ro hA hC hM v, fun _ => by rw [ro_at, hv, hv2]; exact pl_eq hA.1.1 hC hM hcd⟩
    · have hne : ¬ cdPlain k (xs (x4 + 1).toNatClampNeg) (xs (x4 + 2).toNatClampNeg) = 0 := by omega
      obtain rfl := en hne
      exact ⟨GR.stay hA hC hM (fun _ _ => rfl) (t1 hne), fun z => absurd z hne⟩
  refine rL_law_588 h hsc ?_
  refine rL_law_591 h hsc (k_thrown hl hG) (by decide) hn (fun v m3 e3 => ?_)
  obtain ⟨rfl, rfl⟩ := e3
  refine rL_law_594 h hsc (fun _ _ => ?_) (fun _ _ _ => ?_) (fun _ q z => absurd ?_ z) (fun q => absurd t0 q)
  · exact rL_law_618 h hsc (kk _ _ _ hgr.1)
  · exact rL_law_618 h hsc (kk _ _ _ hgr.1)
  · rw [show m3 93 (0 : Int32).toNatClampNeg = v2 from hgr.2 (nz_cd (by unfold cdPlain; (repeat' split) <;> omega) q)]
    exact lg_self _
theorem l_prepare {x4 : Int32} {v5 v6 : Value} (hl : l.stackTraces = false) (hG : jGok G) (h : jOk l G X cL_law 7 ret RL 11 nc) (hsc : jScr G X L xs) (s1 : vp_in (x4 + 1) L) (s2 : vp_in (x4 + 2) L) (s3 : vp_in (x4 + 3) L) (s4 : vp_in (x4 + 4) L) (s5 : vp_in (x4 + 5) L) (hn : n + 6 ≤ nc) (hR : GR mu) (kk : ∀ mu' w5 w6, GR mu' → J l G X Q 7 1338 [.ref 2000, .ref 0, .ref 58, .ref 93, .int x4, w5, w6] [] mu' (n + 6)) :
    J l G X Q 7 621 [.ref 2000, .ref 0, .ref 58, .ref 93, .int x4, v5, v6] [] mu n := by
  obtain ⟨k, lk, pr, run, p, s, inp, pl, hA, hC, hM⟩ := hR
  refine rL_law_621 h hsc s1 s2 ?_
  refine rL_law_635 h hsc (w_prepare hl hG (c_prepare hl hG hC.2.2.1 hA.1 hC.1 hC.2.1 hA.2.1 (ok := @decide (Valid pr ∧ conn lk k) (Classical.propDecidable _)) (@decide_eq_true_iff _ (Classical.propDecidable _)) (xs (x4 + 1).toNatClampNeg) (xs (x4 + 2).toNatClampNeg)) (fun _ _ q => q.1)) (by decide) hn (fun k1 m1 e1 => ?_)
  obtain ⟨rfl, e0, en⟩ := e1
  refine rL_law_638 h hsc s1 s2 ?_
  have hM1 : GM k lk pr run p s inp pl m1 := by
    rcases Nat.eq_zero_or_pos (cdPrep run (@decide (Valid pr ∧ conn lk k) (Classical.propDecidable _)) (xs (x4 + 1).toNatClampNeg) (xs (x4 + 2).toNatClampNeg)) with hcd | hcd
    · obtain ⟨v, mu1, q, rfl⟩ := e0 hcd
      exact hM.past (same_out q.2.2.2 v) (by decide)
    · rw [en (by omega)]
      exact hM
  refine rL_law_653 h hsc (k_prepare hl hG hM1.2.2.1 hA.1 hM1.1 hM1.2.1 hA.2.1 (ok := @decide (Valid pr ∧ conn lk k) (Classical.propDecidable _)) (@decide_eq_true_iff _ (Classical.propDecidable _)) (inp := mu 13) (fun j hj => by rw [(hM1.2.2.2.1 j hj).1, (hC.2.2.2.1 j hj).1]) (xs (x4 + 1).toNatClampNeg) (xs (x4 + 2).toNatClampNeg)) (by decide) hn (fun v2 m2 e2 => ?_)
  obtain ⟨t0, t1, t2⟩ := e2
  have hgr : GR m2 ∧ (cdPrep run (@decide (Valid pr ∧ conn lk k) (Classical.propDecidable _)) (xs (x4 + 1).toNatClampNeg) (xs (x4 + 2).toNatClampNeg) = 0 → m2 93 0 = v2) := by
    rcases Nat.eq_zero_or_pos (cdPrep run (@decide (Valid pr ∧ conn lk k) (Classical.propDecidable _)) (xs (x4 + 1).toNatClampNeg) (xs (x4 + 2).toNatClampNeg)) with hcd | hcd
    · obtain ⟨v, mu1, ⟨-, ⟨w, q, hw, hq1, hq2, hx, hy, hv, hS1, hP1, hR1⟩, hr1, sm⟩, rfl⟩ := e0 hcd
      obtain ⟨⟨w2, q2, hx2, hy2, hw2, hq22, hv2, hS2, hP2, hR2⟩, hr2, sr⟩ := t2 hcd
      obtain ⟨hval, hcn⟩ := rg_prep hcd
      obtain rfl := nI_inj2 (hx.symm.trans hx2) (by omega) (by omega)
      obtain rfl := nI_inj2 (hy.symm.trans hy2) (by omega) (by omega)
      have C1 : GC k lk pr true q (rs0 (mu 13) w) inp pl mu1 := ⟨hS1.1, hS1.2.1, hr1, (fun j hj => by rw [sm 13 (by decide), sm 15 (by decide)]; exact hC.2.2.2.1 j hj), fun _ => ⟨hS1, hP1, hR1⟩⟩
      exact ⟨⟨k, lk, pr, true, q, rs0 (mu 13) w, inp, pl, ⟨hA.1, hA.2.1, fun _ => ⟨hcn, mk_ok hA.1 hcn hval hA.2.1 q, inv_begin _ _ hw, ext_rs0 hw⟩⟩, (C1.out v).past sr (by decide), ⟨hS2.1, hS2.2.1, hr2, (fun j hj => by rw [sr.1 63 (by decide) (by decide), sr.1 64 (by decide) (by decide)]; exact hM1.2.2.2.1 j hj), fun _ => ⟨hS2, hP2, hR2⟩⟩⟩, fun _ => by rw [sr.1 93 (by decide) (by decide), out_at, hv, hv2]⟩
    · have hne : ¬ cdPrep run (@decide (Valid pr ∧ conn lk k) (Classical.propDecidable _)) (xs (x4 + 1).toNatClampNeg) (xs (x4 + 2).toNatClampNeg) = 0 := by omega
      obtain rfl := en hne
      refine ⟨?_, fun z => absurd z hne⟩
      cases run with
      | true => exact GR.stay hA hC hM (fun _ _ => rfl) ((t1 hne).2 rfl)
      | false =>
        have sr := (t1 hne).1
        exact ⟨k, lk, pr, false, p, s, inp, pl, hA, hC.past sr (by decide), GM.mk0 (hM1.1.same sr (by decide) (by decide)) (hM1.2.1.same sr (by decide) (by decide)) (hM1.2.2.1.same sr (by decide)) (fun j hj => by rw [sr.1 63 (by decide) (by decide), sr.1 64 (by decide) (by decide)]; exact hM1.2.2.2.1 j hj)⟩
  refine rL_law_656 h hsc ?_
  refine rL_law_659 h hsc (k_thrown hl hG) (by decide) hn (fun v m3 e3 => ?_)
  obtain ⟨rfl, rfl⟩ := e3
  refine rL_law_662 h hsc (fun _ _ => ?_) (fun _ _ _ => ?_) (fun _ q z => absurd ?_ z) (fun q => absurd t0 q)
  · exact rL_law_686 h hsc (kk _ _ _ hgr.1)
  · exact rL_law_686 h hsc (kk _ _ _ hgr.1)
  · rw [show m3 93 (0 : Int32).toNatClampNeg = v2 from hgr.2 (nz_cd (by unfold cdPrep; (repeat' split) <;> omega) q)]
    exact lg_self _
theorem l_release {x4 : Int32} {v5 v6 : Value} (hl : l.stackTraces = false) (hG : jGok G) (h : jOk l G X cL_law 7 ret RL 11 nc) (hsc : jScr G X L xs) (s1 : vp_in (x4 + 1) L) (s2 : vp_in (x4 + 2) L) (s3 : vp_in (x4 + 3) L) (s4 : vp_in (x4 + 4) L) (s5 : vp_in (x4 + 5) L) (hn : n + 6 ≤ nc) (hR : GR mu) (kk : ∀ mu' w5 w6, GR mu' → J l G X Q 7 1338 [.ref 2000, .ref 0, .ref 58, .ref 93, .int x4, w5, w6] [] mu' (n + 6)) :
    J l G X Q 7 689 [.ref 2000, .ref 0, .ref 58, .ref 93, .int x4, v5, v6] [] mu n := by
  obtain ⟨k, lk, pr, run, p, s, inp, pl, hA, hC, hM⟩ := hR
  refine rL_law_689 h hsc ?_
  refine rL_law_690 h hsc (w_release hl hG (c_release hl hG hC.2.2.1) (fun _ q => (by rw [q.1]; rfl))) (by decide) hn (fun k1 m1 e1 => ?_)
  obtain ⟨rfl, e0, en⟩ := e1
  refine rL_law_693 h hsc ?_
  have hM1 : GM k lk pr run p s inp pl m1 := by
    rcases Nat.eq_zero_or_pos ((if run then 0 else 1)) with hcd | hcd
    · rw [(e0 hcd).2]
      exact hM.past (W := [0]) (Same.wr (by decide)) (by decide)
    · rw [en (by omega)]
      exact hM
  refine rL_law_696 h hsc (k_release hl hG hM1.2.2.1) (by decide) hn (fun m2 e2 => ?_)
  obtain ⟨t0, t1, t2⟩ := e2
  have hgr : GR m2 := by
    cases run with
    | true =>
      obtain ⟨-, rfl⟩ := e0 rfl
      exact ⟨k, lk, pr, false, p, s, inp, pl, GA.mk0 hA.1 hA.2.1, (GC.mk0 (mu := wr mu 0 5 0) (hC.1.congr (fun c q1 q2 => rd_ne _ _ _ (by omega))) (hC.2.1.congr (fun c q1 q2 => rd_ne _ _ _ (by omega))) rfl (fun j hj => hC.2.2.2.1 j hj)).past t2 (by decide), GM.mk0 (hM1.1.same t2 (by decide) (by decide)) (hM1.2.1.same t2 (by decide) (by decide)) t1 (fun j hj => by rw [t2.1 63 (by decide) (by decide), t2.1 64 (by decide) (by decide)]; exact hM1.2.2.2.1 j hj)⟩
    | false =>
      obtain rfl := en (by decide)
      exact ⟨k, lk, pr, false, p, s, inp, pl, hA, hC.past t2 (by decide), GM.mk0 (hM1.1.same t2 (by decide) (by decide)) (hM1.2.1.same t2 (by decide) (by decide)) t1 (fun j hj => by rw [t2.1 63 (by decide) (by decide), t2.1 64 (by decide) (by decide)]; exact hM1.2.2.2.1 j hj)⟩
  refine rL_law_699 h hsc ?_
  refine rL_law_700 h hsc (k_thrown hl hG) (by decide) hn (fun v m3 e3 => ?_)
  obtain ⟨rfl, rfl⟩ := e3
  exact rL_law_703 h hsc (fun _ => kk _ _ _ hgr) (fun q => absurd t0 q)
theorem l_stopAt {x4 : Int32} {v5 v6 : Value} (hl : l.stackTraces = false) (hG : jGok G) (h : jOk l G X cL_law 7 ret RL 11 nc) (hsc : jScr G X L xs) (s1 : vp_in (x4 + 1) L) (s2 : vp_in (x4 + 2) L) (s3 : vp_in (x4 + 3) L) (s4 : vp_in (x4 + 4) L) (s5 : vp_in (x4 + 5) L) (hn : n + 6 ≤ nc) (hR : GR mu) (kk : ∀ mu' w5 w6, GR mu' → J l G X Q 7 1338 [.ref 2000, .ref 0, .ref 58, .ref 93, .int x4, w5, w6] [] mu' (n + 6)) :
    J l G X Q 7 713 [.ref 2000, .ref 0, .ref 58, .ref 93, .int x4, v5, v6] [] mu n := by
  obtain ⟨k, lk, pr, run, p, s, inp, pl, hA, hC, hM⟩ := hR
  refine rL_law_713 h hsc s1 ?_
  refine rL_law_720 h hsc (w_stopAt hl hG (c_stopAt hl hG hC.2.2.1 (Z := mkZ k lk pr p) (s := s) (fun q => ⟨(hA.2.2 q).2, (hC.2.2.2.2 q).1, (hC.2.2.2.2 q).2.2⟩) (xs (x4 + 1).toNatClampNeg)) (fun _ q => q.1)) (by decide) hn (fun k1 m1 e1 => ?_)
  obtain ⟨rfl, e0, en⟩ := e1
  refine rL_law_723 h hsc s1 ?_
  have hM1 : GM k lk pr run p s inp pl m1 := by
    rcases Nat.eq_zero_or_pos (cdStop run s.st (xs (x4 + 1).toNatClampNeg)) with hcd | hcd
    · exact hM.past (e0 hcd).2.2 (by decide)
    · rw [en (by omega)]
      exact hM
  refine rL_law_732 h hsc (k_stopAt hl hG hM1.2.2.1 (Z := mkZ k lk pr p) (s := s) (fun q => ⟨(hA.2.2 q).2, (hM1.2.2.2.2 q).1, (hM1.2.2.2.2 q).2.2⟩) (xs (x4 + 1).toNatClampNeg)) (by decide) hn (fun m2 e2 => ?_)
  obtain ⟨⟨t0, t1⟩, t2⟩ := e2
  have hgr : GR m2 := by
    rcases Nat.eq_zero_or_pos (cdStop run s.st (xs (x4 + 1).toNatClampNeg)) with hcd | hcd
    · obtain ⟨-, hr1, sm⟩ := e0 hcd
      obtain ⟨hr2, sr⟩ := t2 hcd
      have hr := rt_stop hcd
      subst hr
      obtain ⟨hcn, hZ, hI, hE⟩ := hA.2.2 rfl
      obtain ⟨b1, b2⟩ := rg_stop (hI.bd hZ.1).2.1 hcd
      exact ⟨k, lk, pr, true, p, _, inp, pl, ⟨hA.1, hA.2.1, fun _ => ⟨hcn, hZ, inv_actAll hZ.1 _ _ _ (by omega) (inv_stop hI b1 b2), actAll_ext hZ.1 _ _ _ (by omega) (inv_stop hI b1 b2) hE⟩⟩, (hC.runs sm (by decide) hr1).past sr (by decide), hM1.runs sr (by decide) (by decide) hr2⟩
    · have hne : ¬ cdStop run s.st (xs (x4 + 1).toNatClampNeg) = 0 := by omega
      obtain rfl := en hne
      exact GR.stay hA hC hM (fun _ _ => rfl) (t1 hne)
  refine rL_law_735 h hsc ?_
  refine rL_law_736 h hsc (k_thrown hl hG) (by decide) hn (fun v m3 e3 => ?_)
  obtain ⟨rfl, rfl⟩ := e3
  exact rL_law_739 h hsc (fun _ => kk _ _ _ hgr) (fun q => absurd t0 q)
theorem l_letters {x4 : Int32} {v5 v6 : Value} (hl : l.stackTraces = false) (hG : jGok G) (h : jOk l G X cL_law 7 ret RL 11 nc) (hsc : jScr G X L xs) (s1 : vp_in (x4 + 1) L) (s2 : vp_in (x4 + 2) L) (s3 : vp_in (x4 + 3) L) (s4 : vp_in (x4 + 4) L) (s5 : vp_in (x4 + 5) L) (hn : n + 6 ≤ nc) (hR : GR mu) (kk : ∀ mu' w5 w6, GR mu' → J l G X Q 7 1338 [.ref 2000, .ref 0, .ref 58, .ref 93, .int x4, w5, w6] [] mu' (n + 6)) :
    J l G X Q 7 749 [.ref 2000, .ref 0, .ref 58, .ref 93, .int x4, v5, v6] [] mu n := by
  obtain ⟨k, lk, pr, run, p, s, inp, pl, hA, hC, hM⟩ := hR
  refine rL_law_749 h hsc ?_
  refine rL_law_750 h hsc (c_letters hl hG hC.2.2.1 (s := s) (fun q => (hC.2.2.2.2 q).2.2)) (by decide) (by omega) (fun v m1 e1 => ?_)
  obtain ⟨e1, rfl⟩ := e1
  refine rL_law_753 h hsc ?_
  refine rL_law_754 h hsc (k_letters hl hG hM.2.2.1 (Z := mkZ k lk pr p) (s := s) (fun q => (hM.2.2.2.2 q).2.2)) (by decide) (by omega) (fun v2 m2 e2 => ?_)
  obtain ⟨e2, rfl⟩ := e2
  refine rL_law_757 h hsc (fun _ => ?_) (fun q => absurd (e1.trans e2.symm) q)
  have hw := kk (wr m1 58 0 0) v5 v6 (GR.keep hA hC hM (fun c q1 _ => rd_ne _ _ _ q1) (fun f q => if_neg q))
  exact J_wide (by omega) (by omega) h hw
theorem l_letter {x4 : Int32} {v5 v6 : Value} (hl : l.stackTraces = false) (hG : jGok G) (h : jOk l G X cL_law 7 ret RL 11 nc) (hsc : jScr G X L xs) (s1 : vp_in (x4 + 1) L) (s2 : vp_in (x4 + 2) L) (s3 : vp_in (x4 + 3) L) (s4 : vp_in (x4 + 4) L) (s5 : vp_in (x4 + 5) L) (hn : n + 6 ≤ nc) (hR : GR mu) (kk : ∀ mu' w5 w6, GR mu' → J l G X Q 7 1338 [.ref 2000, .ref 0, .ref 58, .ref 93, .int x4, w5, w6] [] mu' (n + 6)) :
    J l G X Q 7 762 [.ref 2000, .ref 0, .ref 58, .ref 93, .int x4, v5, v6] [] mu n := by
  obtain ⟨k, lk, pr, run, p, s, inp, pl, hA, hC, hM⟩ := hR
  refine rL_law_762 h hsc s1 s2 ?_
  refine rL_law_776 h hsc (w_letter hl hG (c_letter hl hG hC.2.2.1 (Z := mkZ k lk pr p) (s := s) (fun q => ⟨(hA.2.2 q).2, (hC.2.2.2.2 q).2.2⟩) (xs (x4 + 1).toNatClampNeg) (xs (x4 + 2).toNatClampNeg)) (fun _ _ q => q.1)) (by decide) hn (fun k1 m1 e1 => ?_)
  obtain ⟨rfl, e0, en⟩ := e1
  refine rL_law_779 h hsc s1 s2 ?_
  have hM1 : GM k lk pr run p s inp pl m1 := by
    rcases Nat.eq_zero_or_pos (cdLet run s.lt.length (xs (x4 + 1).toNatClampNeg) (xs (x4 + 2).toNatClampNeg)) with hcd | hcd
    · obtain ⟨v, mu1, ⟨-, -, rfl⟩, rfl⟩ := e0 hcd
      exact hM.out v
    · rw [en (by omega)]
      exact hM
  refine rL_law_794 h hsc (k_letter hl hG hM1.2.2.1 (Z := mkZ k lk pr p) (s := s) (fun q => ⟨(hA.2.2 q).2, (hM1.2.2.2.2 q).2.2⟩) (xs (x4 + 1).toNatClampNeg) (xs (x4 + 2).toNatClampNeg)) (by decide) hn (fun v2 m2 e2 => ?_)
  obtain ⟨⟨t0, t1⟩, t2⟩ := e2
  have hgr : GR m2 ∧ (cdLet run s.lt.length (xs (x4 + 1).toNatClampNeg) (xs (x4 + 2).toNatClampNeg) = 0 → m2 93 0 = v2) := by
    rcases Nat.eq_zero_or_pos (cdLet run s.lt.length (xs (x4 + 1).toNatClampNeg) (xs (x4 + 2).toNatClampNeg)) with hcd | hcd
    · obtain ⟨v, mu1, ⟨-, ⟨i, w, e, hx, hy, hw, he, hv⟩, rfl⟩, rfl⟩ := e0 hcd
      obtain ⟨⟨i2, w2, e2, hx2, hy2, hi2, hw2, he2, hv2⟩, rfl⟩ := t2 hcd
      have hr := rt_let hcd
      subst hr
      obtain ⟨hcn, hZ, hI, hE⟩ := hA.2.2 rfl
      have hb := (hI.bd hZ.1).1
      have hb3 := (List.getElem?_eq_some_iff.mp he).1
      obtain rfl := nI_inj2 (hx.symm.trans hx2) (by omega) hi2
      obtain rfl := nI_inj2 (hy.symm.trans hy2) (by omega) hw2
      obtain rfl := Option.some.inj (he.symm.trans he2)
      exact ⟨gr_ro hA hC hM v, fun _ => by rw [ro_at, hv, hv2]⟩
    · have hne : ¬ cdLet run s.lt.length (xs (x4 + 1).toNatClampNeg) (xs (x4 + 2).toNatClampNeg) = 0 := by omega
      obtain rfl := en hne
      exact ⟨GR.stay hA hC hM (fun _ _ => rfl) (t1 hne), fun z => absurd z hne⟩
  refine rL_law_797 h hsc ?_
  refine rL_law_800 h hsc (k_thrown hl hG) (by decide) hn (fun v m3 e3 => ?_)
  obtain ⟨rfl, rfl⟩ := e3
  refine rL_law_803 h hsc (fun _ _ => ?_) (fun _ _ _ => ?_) (fun _ q z => absurd ?_ z) (fun q => absurd t0 q)
  · exact rL_law_827 h hsc (kk _ _ _ hgr.1)
  · exact rL_law_827 h hsc (kk _ _ _ hgr.1)
  · rw [show m3 93 (0 : Int32).toNatClampNeg = v2 from hgr.2 (nz_cd (by unfold cdLet; (repeat' split) <;> omega) q)]
    exact lg_self _
theorem l_deliver {x4 : Int32} {v5 v6 : Value} (hl : l.stackTraces = false) (hG : jGok G) (h : jOk l G X cL_law 7 ret RL 11 nc) (hsc : jScr G X L xs) (s1 : vp_in (x4 + 1) L) (s2 : vp_in (x4 + 2) L) (s3 : vp_in (x4 + 3) L) (s4 : vp_in (x4 + 4) L) (s5 : vp_in (x4 + 5) L) (hn : n + 6 ≤ nc) (hR : GR mu) (kk : ∀ mu' w5 w6, GR mu' → J l G X Q 7 1338 [.ref 2000, .ref 0, .ref 58, .ref 93, .int x4, w5, w6] [] mu' (n + 6)) :
    J l G X Q 7 830 [.ref 2000, .ref 0, .ref 58, .ref 93, .int x4, v5, v6] [] mu n := by
  obtain ⟨k, lk, pr, run, p, s, inp, pl, hA, hC, hM⟩ := hR
  refine rL_law_830 h hsc s1 ?_
  refine rL_law_838 h hsc (w_deliver hl hG (c_deliver hl hG hC.2.2.1 (Z := mkZ k lk pr p) (s := s) (fun q => ⟨(hA.2.2 q).2, (hC.2.2.2.2 q).1, (hC.2.2.2.2 q).2.2⟩) (xs (x4 + 1).toNatClampNeg)) (fun _ _ q => q.1)) (by decide) hn (fun k1 m1 e1 => ?_)
  obtain ⟨rfl, e0, en⟩ := e1
  refine rL_law_841 h hsc s1 ?_
  have hM1 : GM k lk pr run p s inp pl m1 := by
    rcases Nat.eq_zero_or_pos (cdDel run s.lt.length (xs (x4 + 1).toNatClampNeg)) with hcd | hcd
    · obtain ⟨v, mu1, q, rfl⟩ := e0 hcd
      exact hM.past (same_out q.2.2 v) (by decide)
    · rw [en (by omega)]
      exact hM
  refine rL_law_850 h hsc (k_deliver hl hG hM1.2.2.1 (Z := mkZ k lk pr p) (s := s) (fun q => ⟨(hA.2.2 q).2, (hM1.2.2.2.2 q).1, (hM1.2.2.2.2 q).2.2⟩) (xs (x4 + 1).toNatClampNeg)) (by decide) hn (fun v2 m2 e2 => ?_)
  obtain ⟨⟨t0, t1⟩, t2⟩ := e2
  have hgr : GR m2 ∧ (cdDel run s.lt.length (xs (x4 + 1).toNatClampNeg) = 0 → m2 93 0 = v2) := by
    rcases Nat.eq_zero_or_pos (cdDel run s.lt.length (xs (x4 + 1).toNatClampNeg)) with hcd | hcd
    · obtain ⟨v, mu1, ⟨-, ⟨i, e, hx, he, hv, hr1⟩, sm⟩, rfl⟩ := e0 hcd
      obtain ⟨⟨i2, e2, hx2, hb2, he2, hv2, hr2⟩, sr⟩ := t2 hcd
      have hr := rt_del hcd
      subst hr
      obtain ⟨hcn, hZ, hI, hE⟩ := hA.2.2 rfl
      have hb := (hI.bd hZ.1).1
      have hb3 := (List.getElem?_eq_some_iff.mp he).1
      obtain rfl := nI_inj2 (hx.symm.trans hx2) (by omega) hb2
      obtain rfl := Option.some.inj (he.symm.trans he2)
      exact ⟨⟨k, lk, pr, true, p, _, inp, pl, ⟨hA.1, hA.2.1, fun _ => ⟨hcn, dlv_ok hZ ⟨hZ, hI, hE⟩ i⟩⟩, ((hC.runs sm (by decide) hr1).out v).past sr (by decide), hM1.runs sr (by decide) (by decide) hr2⟩, fun _ => by rw [sr.1 93 (by decide) (by decide), out_at, hv, hv2]⟩
    · have hne : ¬ cdDel run s.lt.length (xs (x4 + 1).toNatClampNeg) = 0 := by omega
      obtain rfl := en hne
      exact ⟨GR.stay hA hC hM (fun _ _ => rfl) (t1 hne), fun z => absurd z hne⟩
  refine rL_law_853 h hsc ?_
  refine rL_law_856 h hsc (k_thrown hl hG) (by decide) hn (fun v m3 e3 => ?_)
  obtain ⟨rfl, rfl⟩ := e3
  refine rL_law_859 h hsc (fun _ _ => ?_) (fun _ _ _ => ?_) (fun _ q z => absurd ?_ z) (fun q => absurd t0 q)
  · exact rL_law_883 h hsc (kk _ _ _ hgr.1)
  · exact rL_law_883 h hsc (kk _ _ _ hgr.1)
  · rw [show m3 93 (0 : Int32).toNatClampNeg = v2 from hgr.2 (nz_cd (by unfold cdDel; (repeat' split) <;> omega) q)]
    exact lg_self _
theorem l_deliverAll {x4 : Int32} {v5 v6 : Value} (hl : l.stackTraces = false) (hG : jGok G) (h : jOk l G X cL_law 7 ret RL 11 nc) (hsc : jScr G X L xs) (s1 : vp_in (x4 + 1) L) (s2 : vp_in (x4 + 2) L) (s3 : vp_in (x4 + 3) L) (s4 : vp_in (x4 + 4) L) (s5 : vp_in (x4 + 5) L) (hn : n + 6 ≤ nc) (hR : GR mu) (kk : ∀ mu' w5 w6, GR mu' → J l G X Q 7 1338 [.ref 2000, .ref 0, .ref 58, .ref 93, .int x4, w5, w6] [] mu' (n + 6)) :
    J l G X Q 7 886 [.ref 2000, .ref 0, .ref 58, .ref 93, .int x4, v5, v6] [] mu n := by
  obtain ⟨k, lk, pr, run, p, s, inp, pl, hA, hC, hM⟩ := hR
  refine rL_law_886 h hsc s1 s2 s3 ?_
  refine rL_law_906 h hsc (w_deliverAll hl hG (c_deliverAll hl hG hC.2.2.1 (Z := mkZ k lk pr p) (s := s) (fun q => ⟨(hA.2.2 q).2, (hC.2.2.2.2 q).1, (hC.2.2.2.2 q).2.2⟩) (xs (x4 + 1).toNatClampNeg) (xs (x4 + 2).toNatClampNeg) (xs (x4 + 3).toNatClampNeg)) (fun _ _ q => q.1)) (by decide) hn (fun k1 m1 e1 => ?_)
  obtain ⟨rfl, e0, en⟩ := e1
  refine rL_law_909 h hsc s1 s2 s3 ?_
  have hM1 : GM k lk pr run p s inp pl m1 := by
    rcases Nat.eq_zero_or_pos (cdAll run (xs (x4 + 1).toNatClampNeg) (xs (x4 + 3).toNatClampNeg)) with hcd | hcd
    · obtain ⟨v, mu1, q, rfl⟩ := e0 hcd
      exact hM.past (same_out q.2.2.2 v) (by decide)
    · rw [en (by omega)]
      exact hM
  refine rL_law_930 h hsc (k_deliverAll hl hG hM1.2.2.1 (Z := mkZ k lk pr p) (s := s) (fun q => ⟨(hA.2.2 q).2, (hM1.2.2.2.2 q).1, (hM1.2.2.2.2 q).2.2⟩) (xs (x4 + 1).toNatClampNeg) (xs (x4 + 2).toNatClampNeg) (xs (x4 + 3).toNatClampNeg)) (by decide) hn (fun v2 m2 e2 => ?_)
  obtain ⟨⟨t0, t1⟩, t2⟩ := e2
  have hgr : GR m2 ∧ (cdAll run (xs (x4 + 1).toNatClampNeg) (xs (x4 + 3).toNatClampNeg) = 0 → m2 93 0 = v2) := by
    rcases Nat.eq_zero_or_pos (cdAll run (xs (x4 + 1).toNatClampNeg) (xs (x4 + 3).toNatClampNeg)) with hcd | hcd
    · obtain ⟨v, mu1, ⟨-, hv, hr1, sm⟩, rfl⟩ := e0 hcd
      obtain ⟨hv2, hr2, sr⟩ := t2 hcd
      have hr := rt_all hcd
      subst hr
      obtain ⟨hcn, hRA⟩ := hA.2.2 rfl
      exact ⟨⟨k, lk, pr, true, p, _, inp, pl, ⟨hA.1, hA.2.1, fun _ => ⟨hcn, (dAll_ok _ _ 0 s hRA).1⟩⟩, ((hC.runs sm (by decide) hr1).out v).past sr (by decide), hM1.runs sr (by decide) (by decide) hr2⟩, fun _ => by rw [sr.1 93 (by decide) (by decide), out_at, hv, hv2]⟩
    · have hne : ¬ cdAll run (xs (x4 + 1).toNatClampNeg) (xs (x4 + 3).toNatClampNeg) = 0 := by omega
      obtain rfl := en hne
      exact ⟨GR.stay hA hC hM (fun _ _ => rfl) (t1 hne), fun z => absurd z hne⟩
  refine rL_law_933 h hsc ?_
  refine rL_law_936 h hsc (k_thrown hl hG) (by decide) hn (fun v m3 e3 => ?_)
  obtain ⟨rfl, rfl⟩ := e3
  refine rL_law_939 h hsc (fun _ _ => ?_) (fun _ _ _ => ?_) (fun _ q z => absurd ?_ z) (fun q => absurd t0 q)
  · exact rL_law_963 h hsc (kk _ _ _ hgr.1)
  · exact rL_law_963 h hsc (kk _ _ _ hgr.1)
  · rw [show m3 93 (0 : Int32).toNatClampNeg = v2 from hgr.2 (nz_cd (by unfold cdAll; (repeat' split) <;> omega) q)]
    exact lg_self _
theorem l_switchTo {x4 : Int32} {v5 v6 : Value} (hl : l.stackTraces = false) (hG : jGok G) (h : jOk l G X cL_law 7 ret RL 11 nc) (hsc : jScr G X L xs) (s1 : vp_in (x4 + 1) L) (s2 : vp_in (x4 + 2) L) (s3 : vp_in (x4 + 3) L) (s4 : vp_in (x4 + 4) L) (s5 : vp_in (x4 + 5) L) (hn : n + 6 ≤ nc) (hR : GR mu) (kk : ∀ mu' w5 w6, GR mu' → J l G X Q 7 1338 [.ref 2000, .ref 0, .ref 58, .ref 93, .int x4, w5, w6] [] mu' (n + 6)) :
    J l G X Q 7 966 [.ref 2000, .ref 0, .ref 58, .ref 93, .int x4, v5, v6] [] mu n := by
  obtain ⟨k, lk, pr, run, p, s, inp, pl, hA, hC, hM⟩ := hR
  refine rL_law_966 h hsc s1 ?_
  refine rL_law_974 h hsc (w_switchTo hl hG (c_switchTo hl hG hC.2.2.1 (Z := mkZ k lk pr p) (s := s) (fun q => ⟨(hA.2.2 q).2, (hC.2.2.2.2 q).1, (hC.2.2.2.2 q).2.2⟩) (xs (x4 + 1).toNatClampNeg)) (fun _ _ q => q.1)) (by decide) hn (fun k1 m1 e1 => ?_)
  obtain ⟨rfl, e0, en⟩ := e1
  refine rL_law_977 h hsc s1 ?_
  have hM1 : GM k lk pr run p s inp pl m1 := by
    rcases Nat.eq_zero_or_pos (cdSw run s.sw.length (xs (x4 + 1).toNatClampNeg)) with hcd | hcd
    · obtain ⟨v, mu1, q, rfl⟩ := e0 hcd
      exact hM.past (same_out q.2.2.2 v) (by decide)
    · rw [en (by omega)]
      exact hM
  refine rL_law_986 h hsc (k_switchTo hl hG hM1.2.2.1 (Z := mkZ k lk pr p) (s := s) (fun q => ⟨(hA.2.2 q).2, (hM1.2.2.2.2 q).1, (hM1.2.2.2.2 q).2.2⟩) (xs (x4 + 1).toNatClampNeg)) (by decide) hn (fun v2 m2 e2 => ?_)
  obtain ⟨⟨t0, t1⟩, t2⟩ := e2
  have hgr : GR m2 ∧ (cdSw run s.sw.length (xs (x4 + 1).toNatClampNeg) = 0 → m2 93 0 = v2) := by
    rcases Nat.eq_zero_or_pos (cdSw run s.sw.length (xs (x4 + 1).toNatClampNeg)) with hcd | hcd
    · obtain ⟨v, mu1, ⟨-, ⟨w, hw, hx, hr1⟩, hv, sm⟩, rfl⟩ := e0 hcd
      obtain ⟨⟨w2, hw2, hx2, hr2⟩, hv2, sr⟩ := t2 hcd
      have hsl := rg_sw hcd
      have hr := rt_sw hcd
      subst hr
      obtain rfl := nI_inj2 (hx.symm.trans hx2) (by omega) (by omega)
      obtain ⟨hcn, hZ, hI, hE⟩ := hA.2.2 rfl
      exact ⟨⟨k, lk, pr, true, p, _, inp, pl, ⟨hA.1, hA.2.1, fun _ => ⟨hcn, hZ, inv_sw hI hw, hE.sw hI hw (Nat.le_of_lt_succ (Nat.lt_of_le_of_ne hE.2.2.1 hsl))⟩⟩, ((hC.runs sm (by decide) hr1).out v).past sr (by decide), hM1.runs sr (by decide) (by decide) hr2⟩, fun _ => by rw [sr.1 93 (by decide) (by decide), out_at, hv, hv2]⟩
    · have hne : ¬ cdSw run s.sw.length (xs (x4 + 1).toNatClampNeg) = 0 := by omega
      obtain rfl := en hne
      exact ⟨GR.stay hA hC hM (fun _ _ => rfl) (t1 hne), fun z => absurd z hne⟩
  refine rL_law_989 h hsc ?_
  refine rL_law_992 h hsc (k_thrown hl hG) (by decide) hn (fun v m3 e3 => ?_)
  obtain ⟨rfl, rfl⟩ := e3
  refine rL_law_995 h hsc (fun _ _ => ?_) (fun _ _ _ => ?_) (fun _ q z => absurd ?_ z) (fun q => absurd t0 q)
  · exact rL_law_1019 h hsc (kk _ _ _ hgr.1)
  · exact rL_law_1019 h hsc (kk _ _ _ hgr.1)
  · rw [show m3 93 (0 : Int32).toNatClampNeg = v2 from hgr.2 (nz_cd (by unfold cdSw; (repeat' split) <;> omega) q)]
    exact lg_self _
theorem l_roundOf {x4 : Int32} {v5 v6 : Value} (hl : l.stackTraces = false) (hG : jGok G) (h : jOk l G X cL_law 7 ret RL 11 nc) (hsc : jScr G X L xs) (s1 : vp_in (x4 + 1) L) (s2 : vp_in (x4 + 2) L) (s3 : vp_in (x4 + 3) L) (s4 : vp_in (x4 + 4) L) (s5 : vp_in (x4 + 5) L) (hn : n + 6 ≤ nc) (hR : GR mu) (kk : ∀ mu' w5 w6, GR mu' → J l G X Q 7 1338 [.ref 2000, .ref 0, .ref 58, .ref 93, .int x4, w5, w6] [] mu' (n + 6)) :
    J l G X Q 7 1022 [.ref 2000, .ref 0, .ref 58, .ref 93, .int x4, v5, v6] [] mu n := by
  obtain ⟨k, lk, pr, run, p, s, inp, pl, hA, hC, hM⟩ := hR
  refine rL_law_1022 h hsc s1 ?_
  refine rL_law_1030 h hsc (w_roundOf hl hG (c_roundOf hl hG hC.2.2.1 hA.1.1 hC.1.1 (s := s) (fun q => (hC.2.2.2.2 q).2.2) (xs (x4 + 1).toNatClampNeg)) (fun _ _ q => q.1)) (by decide) hn (fun k1 m1 e1 => ?_)
  obtain ⟨rfl, e0, en⟩ := e1
  refine rL_law_1033 h hsc s1 ?_
  have hM1 : GM k lk pr run p s inp pl m1 := by
    rcases Nat.eq_zero_or_pos (cdRd k run (xs (x4 + 1).toNatClampNeg)) with hcd | hcd
    · obtain ⟨v, mu1, ⟨-, -, rfl⟩, rfl⟩ := e0 hcd
      exact hM.out v
    · rw [en (by omega)]
      exact hM
  refine rL_law_1042 h hsc (k_roundOf hl hG hM1.2.2.1 hA.1.1 hM1.1.1 (Z := mkZ k lk pr p) (s := s) (fun q => (hM1.2.2.2.2 q).2.2) (xs (x4 + 1).toNatClampNeg)) (by decide) hn (fun v2 m2 e2 => ?_)
  obtain ⟨⟨t0, t1⟩, t2⟩ := e2
  have hgr : GR m2 ∧ (cdRd k run (xs (x4 + 1).toNatClampNeg) = 0 → m2 93 0 = v2) := by
    rcases Nat.eq_zero_or_pos (cdRd k run (xs (x4 + 1).toNatClampNeg)) with hcd | hcd
    · obtain ⟨v, mu1, ⟨-, hv, rfl⟩, rfl⟩ := e0 hcd
      obtain ⟨hv2, rfl⟩ := t2 hcd
      exact ⟨gr_ro hA hC hM v, fun _ => by rw [ro_at, hv, hv2]⟩
    · have hne : ¬ cdRd k run (xs (x4 + 1).toNatClampNeg) = 0 := by omega
      obtain rfl := en hne
      exact ⟨GR.stay hA hC hM (fun _ _ => rfl) (t1 hne), fun z => absurd z hne⟩
  refine rL_law_1045 h hsc ?_
  refine rL_law_1048 h hsc (k_thrown hl hG) (by decide) hn (fun v m3 e3 => ?_)
  obtain ⟨rfl, rfl⟩ := e3
  refine rL_law_1051 h hsc (fun _ _ => ?_) (fun _ _ _ => ?_) (fun _ q z => absurd ?_ z) (fun q => absurd t0 q)
  · exact rL_law_1075 h hsc (kk _ _ _ hgr.1)
  · exact rL_law_1075 h hsc (kk _ _ _ hgr.1)
  · rw [show m3 93 (0 : Int32).toNatClampNeg = v2 from hgr.2 (nz_cd (by unfold cdRd; (repeat' split) <;> omega) q)]
    exact lg_self _
theorem l_value {x4 : Int32} {v5 v6 : Value} (hl : l.stackTraces = false) (hG : jGok G) (h : jOk l G X cL_law 7 ret RL 11 nc) (hsc : jScr G X L xs) (s1 : vp_in (x4 + 1) L) (s2 : vp_in (x4 + 2) L) (s3 : vp_in (x4 + 3) L) (s4 : vp_in (x4 + 4) L) (s5 : vp_in (x4 + 5) L) (hn : n + 6 ≤ nc) (hR : GR mu) (kk : ∀ mu' w5 w6, GR mu' → J l G X Q 7 1338 [.ref 2000, .ref 0, .ref 58, .ref 93, .int x4, w5, w6] [] mu' (n + 6)) :
    J l G X Q 7 1078 [.ref 2000, .ref 0, .ref 58, .ref 93, .int x4, v5, v6] [] mu n := by
  obtain ⟨k, lk, pr, run, p, s, inp, pl, hA, hC, hM⟩ := hR
  refine rL_law_1078 h hsc s1 s2 ?_
  refine rL_law_1092 h hsc (w_value hl hG (c_value hl hG hC.2.2.1 hA.1.1 hC.1.1 (s := s) (fun q => (hC.2.2.2.2 q).2.2) (xs (x4 + 1).toNatClampNeg) (xs (x4 + 2).toNatClampNeg)) (fun _ _ q => q.1)) (by decide) hn (fun k1 m1 e1 => ?_)
  obtain ⟨rfl, e0, en⟩ := e1
  refine rL_law_1095 h hsc s1 s2 ?_
  have hM1 : GM k lk pr run p s inp pl m1 := by
    rcases Nat.eq_zero_or_pos (cdVal k run (xs (x4 + 1).toNatClampNeg) (xs (x4 + 2).toNatClampNeg)) with hcd | hcd
    · obtain ⟨v, mu1, ⟨-, -, rfl⟩, rfl⟩ := e0 hcd
      exact hM.out v
    · rw [en (by omega)]
      exact hM
  refine rL_law_1110 h hsc (k_value hl hG hM1.2.2.1 hA.1.1 hM1.1.1 (Z := mkZ k lk pr p) (s := s) (fun q => (hM1.2.2.2.2 q).2.2) (xs (x4 + 1).toNatClampNeg) (xs (x4 + 2).toNatClampNeg)) (by decide) hn (fun v2 m2 e2 => ?_)
  obtain ⟨⟨t0, t1⟩, t2⟩ := e2
  have hgr : GR m2 ∧ (cdVal k run (xs (x4 + 1).toNatClampNeg) (xs (x4 + 2).toNatClampNeg) = 0 → m2 93 0 = v2) := by
    rcases Nat.eq_zero_or_pos (cdVal k run (xs (x4 + 1).toNatClampNeg) (xs (x4 + 2).toNatClampNeg)) with hcd | hcd
    · obtain ⟨v, mu1, ⟨-, hv, rfl⟩, rfl⟩ := e0 hcd
      obtain ⟨hv2, rfl⟩ := t2 hcd
      exact ⟨gr_ro hA hC hM v, fun _ => by rw [ro_at, hv, hv2]⟩
    · have hne : ¬ cdVal k run (xs (x4 + 1).toNatClampNeg) (xs (x4 + 2).toNatClampNeg) = 0 := by omega
      obtain rfl := en hne
      exact ⟨GR.stay hA hC hM (fun _ _ => rfl) (t1 hne), fun z => absurd z hne⟩
  refine rL_law_1113 h hsc ?_
  refine rL_law_1116 h hsc (k_thrown hl hG) (by decide) hn (fun v m3 e3 => ?_)
  obtain ⟨rfl, rfl⟩ := e3
  refine rL_law_1119 h hsc (fun _ _ => ?_) (fun _ _ _ => ?_) (fun _ q z => absurd ?_ z) (fun q => absurd t0 q)
  · exact rL_law_1143 h hsc (kk _ _ _ hgr.1)
  · exact rL_law_1143 h hsc (kk _ _ _ hgr.1)
  · rw [show m3 93 (0 : Int32).toNatClampNeg = v2 from hgr.2 (nz_cd (by unfold cdVal; (repeat' split) <;> omega) q)]
    exact lg_self _
theorem l_place {x4 : Int32} {v5 v6 : Value} (hl : l.stackTraces = false) (hG : jGok G) (h : jOk l G X cL_law 7 ret RL 11 nc) (hsc : jScr G X L xs) (s1 : vp_in (x4 + 1) L) (s2 : vp_in (x4 + 2) L) (s3 : vp_in (x4 + 3) L) (s4 : vp_in (x4 + 4) L) (s5 : vp_in (x4 + 5) L) (hn : n + 6 ≤ nc) (hR : GR mu) (kk : ∀ mu' w5 w6, GR mu' → J l G X Q 7 1338 [.ref 2000, .ref 0, .ref 58, .ref 93, .int x4, w5, w6] [] mu' (n + 6)) :
    J l G X Q 7 1146 [.ref 2000, .ref 0, .ref 58, .ref 93, .int x4, v5, v6] [] mu n := by
  obtain ⟨k, lk, pr, run, p, s, inp, pl, hA, hC, hM⟩ := hR
  refine rL_law_1146 h hsc s1 s2 ?_
  refine rL_law_1160 h hsc (w_place hl hG (c_place hl hG hC.2.2.1 hA.1 hC.1 (pr := pr) (p := p) (fun q => ⟨(hA.2.2 q).1, (hC.2.2.2.2 q).1, (hC.2.2.2.2 q).2.1⟩) (xs (x4 + 1).toNatClampNeg) (xs (x4 + 2).toNatClampNeg)) (fun _ _ q => q.1)) (by decide) hn (fun k1 m1 e1 => ?_)
  obtain ⟨rfl, e0, en⟩ := e1
  refine rL_law_1163 h hsc s1 s2 ?_
  have hM1 : GM k lk pr run p s inp pl m1 := by
    rcases Nat.eq_zero_or_pos (cdPl k run (xs (x4 + 1).toNatClampNeg) (xs (x4 + 2).toNatClampNeg)) with hcd | hcd
    · obtain ⟨v, mu1, ⟨-, -, rfl⟩, rfl⟩ := e0 hcd
      exact hM.out v
    · rw [en (by omega)]
      exact hM
  refine rL_law_1178 h hsc (k_place hl hG hM1.2.2.1 hA.1 hM1.1 (pr := pr) (p := p) (fun q => ⟨(hA.2.2 q).1, (hM1.2.2.2.2 q).1, (hM1.2.2.2.2 q).2.1⟩) (xs (x4 + 1).toNatClampNeg) (xs (x4 + 2).toNatClampNeg)) (by decide) hn (fun v2 m2 e2 => ?_)
  obtain ⟨⟨t0, t1⟩, t2⟩ := e2
  have hgr : GR m2 ∧ (cdPl k run (xs (x4 + 1).toNatClampNeg) (xs (x4 + 2).toNatClampNeg) = 0 → m2 93 0 = v2) := by
    rcases Nat.eq_zero_or_pos (cdPl k run (xs (x4 + 1).toNatClampNeg) (xs (x4 + 2).toNatClampNeg)) with hcd | hcd
    · obtain ⟨v, mu1, ⟨-, hv, rfl⟩, rfl⟩ := e0 hcd
      obtain ⟨hv2, rfl⟩ := t2 hcd
      exact ⟨gr_ro hA hC hM v, fun _ => by rw [ro_at, hv, hv2]⟩
    · have hne : ¬ cdPl k run (xs (x4 + 1).toNatClampNeg) (xs (x4 + 2).toNatClampNeg) = 0 := by omega
      obtain rfl := en hne
      exact ⟨GR.stay hA hC hM (fun _ _ => rfl) (t1 hne), fun z => absurd z hne⟩
  refine rL_law_1181 h hsc ?_
  refine rL_law_1184 h hsc (k_thrown hl hG) (by decide) hn (fun v m3 e3 => ?_)
  obtain ⟨rfl, rfl⟩ := e3
  refine rL_law_1187 h hsc (fun _ _ => ?_) (fun _ _ _ => ?_) (fun _ q z => absurd ?_ z) (fun q => absurd t0 q)
  · exact rL_law_1211 h hsc (kk _ _ _ hgr.1)
  · exact rL_law_1211 h hsc (kk _ _ _ hgr.1)
  · rw [show m3 93 (0 : Int32).toNatClampNeg = v2 from hgr.2 (nz_cd (by unfold cdPl; (repeat' split) <;> omega) q)]
    exact lg_self _
theorem l_chosen {x4 : Int32} {v5 v6 : Value} (hl : l.stackTraces = false) (hG : jGok G) (h : jOk l G X cL_law 7 ret RL 11 nc) (hsc : jScr G X L xs) (s1 : vp_in (x4 + 1) L) (s2 : vp_in (x4 + 2) L) (s3 : vp_in (x4 + 3) L) (s4 : vp_in (x4 + 4) L) (s5 : vp_in (x4 + 5) L) (hn : n + 6 ≤ nc) (hR : GR mu) (kk : ∀ mu' w5 w6, GR mu' → J l G X Q 7 1338 [.ref 2000, .ref 0, .ref 58, .ref 93, .int x4, w5, w6] [] mu' (n + 6)) :
    J l G X Q 7 1214 [.ref 2000, .ref 0, .ref 58, .ref 93, .int x4, v5, v6] [] mu n := by
  obtain ⟨k, lk, pr, run, p, s, inp, pl, hA, hC, hM⟩ := hR
  refine rL_law_1214 h hsc s1 s2 ?_
  refine rL_law_1228 h hsc (w_chosen hl hG (c_chosen hl hG hC.2.2.1 hA.1 (p := p) (fun q => (hC.2.2.2.2 q).2.1) (xs (x4 + 1).toNatClampNeg) (xs (x4 + 2).toNatClampNeg)) (fun _ _ q => q.1)) (by decide) hn (fun k1 m1 e1 => ?_)
  obtain ⟨rfl, e0, en⟩ := e1
  refine rL_law_1231 h hsc s1 s2 ?_
  have hM1 : GM k lk pr run p s inp pl m1 := by
    rcases Nat.eq_zero_or_pos (cdCh run (clAll lk k p).1 (xs (x4 + 1).toNatClampNeg) (xs (x4 + 2).toNatClampNeg)) with hcd | hcd
    · obtain ⟨v, mu1, ⟨-, -, rfl⟩, rfl⟩ := e0 hcd
      exact hM.out v
    · rw [en (by omega)]
      exact hM
  refine rL_law_1246 h hsc (k_chosen hl hG hM1.2.2.1 hA.1 hM1.1 (p := p) (fun q => (hM1.2.2.2.2 q).2.1) (xs (x4 + 1).toNatClampNeg) (xs (x4 + 2).toNatClampNeg)) (by decide) hn (fun v2 m2 e2 => ?_)
  obtain ⟨⟨t0, t1⟩, t2⟩ := e2
  have hgr : GR m2 ∧ (cdCh run (clAll lk k p).1 (xs (x4 + 1).toNatClampNeg) (xs (x4 + 2).toNatClampNeg) = 0 → m2 93 0 = v2) := by
    rcases Nat.eq_zero_or_pos (cdCh run (clAll lk k p).1 (xs (x4 + 1).toNatClampNeg) (xs (x4 + 2).toNatClampNeg)) with hcd | hcd
    · obtain ⟨v, mu1, ⟨-, hv, rfl⟩, rfl⟩ := e0 hcd
      obtain ⟨hv2, rfl⟩ := t2 hcd
      exact ⟨gr_ro hA hC hM v, fun _ => by rw [ro_at, hv, hv2]⟩
    · have hne : ¬ cdCh run (clAll lk k p).1 (xs (x4 + 1).toNatClampNeg) (xs (x4 + 2).toNatClampNeg) = 0 := by omega
      obtain rfl := en hne
      exact ⟨GR.stay hA hC hM (fun _ _ => rfl) (t1 hne), fun z => absurd z hne⟩
  refine rL_law_1249 h hsc ?_
  refine rL_law_1252 h hsc (k_thrown hl hG) (by decide) hn (fun v m3 e3 => ?_)
  obtain ⟨rfl, rfl⟩ := e3
  refine rL_law_1255 h hsc (fun _ _ => ?_) (fun _ _ _ => ?_) (fun _ q z => absurd ?_ z) (fun q => absurd t0 q)
  · exact rL_law_1279 h hsc (kk _ _ _ hgr.1)
  · exact rL_law_1279 h hsc (kk _ _ _ hgr.1)
  · rw [show m3 93 (0 : Int32).toNatClampNeg = v2 from hgr.2 (nz_cd (by unfold cdCh; (repeat' split) <;> omega) q)]
    exact lg_self _
theorem l_count {x4 : Int32} {v5 v6 : Value} (hl : l.stackTraces = false) (hG : jGok G) (h : jOk l G X cL_law 7 ret RL 11 nc) (hsc : jScr G X L xs) (s1 : vp_in (x4 + 1) L) (s2 : vp_in (x4 + 2) L) (s3 : vp_in (x4 + 3) L) (s4 : vp_in (x4 + 4) L) (s5 : vp_in (x4 + 5) L) (hn : n + 6 ≤ nc) (hR : GR mu) (kk : ∀ mu' w5 w6, GR mu' → J l G X Q 7 1338 [.ref 2000, .ref 0, .ref 58, .ref 93, .int x4, w5, w6] [] mu' (n + 6)) :
    J l G X Q 7 1282 [.ref 2000, .ref 0, .ref 58, .ref 93, .int x4, v5, v6] [] mu n := by
  obtain ⟨k, lk, pr, run, p, s, inp, pl, hA, hC, hM⟩ := hR
  refine rL_law_1282 h hsc s1 ?_
  refine rL_law_1290 h hsc (w_count hl hG (c_count hl hG hC.2.2.1 hC.1 (p := p) (s := s) (fun q => ⟨(hC.2.2.2.2 q).2.1, (hC.2.2.2.2 q).2.2⟩) (xs (x4 + 1).toNatClampNeg)) (fun _ _ q => q.1)) (by decide) hn (fun k1 m1 e1 => ?_)
  obtain ⟨rfl, e0, en⟩ := e1
  refine rL_law_1293 h hsc s1 ?_
  have hM1 : GM k lk pr run p s inp pl m1 := by
    rcases Nat.eq_zero_or_pos (cdCt run (xs (x4 + 1).toNatClampNeg)) with hcd | hcd
    · obtain ⟨v, mu1, ⟨-, -, rfl⟩, rfl⟩ := e0 hcd
      exact hM.out v
    · rw [en (by omega)]
      exact hM
  refine rL_law_1302 h hsc (k_count hl hG hM1.2.2.1 hA.1 hM1.1 (p := p) (Z := mkZ k lk pr p) (s := s) (fun q => ⟨(hM1.2.2.2.2 q).2.1, (hM1.2.2.2.2 q).2.2⟩) (xs (x4 + 1).toNatClampNeg)) (by decide) hn (fun v2 m2 e2 => ?_)
  obtain ⟨⟨t0, t1⟩, t2⟩ := e2
  have hgr : GR m2 ∧ (cdCt run (xs (x4 + 1).toNatClampNeg) = 0 → m2 93 0 = v2) := by
    rcases Nat.eq_zero_or_pos (cdCt run (xs (x4 + 1).toNatClampNeg)) with hcd | hcd
    · obtain ⟨v, mu1, ⟨-, hv, rfl⟩, rfl⟩ := e0 hcd
      obtain ⟨hv2, rfl⟩ := t2 hcd
      exact ⟨gr_ro hA hC hM v, fun _ => by rw [ro_at, hv, hv2]⟩
    · have hne : ¬ cdCt run (xs (x4 + 1).toNatClampNeg) = 0 := by omega
      obtain rfl := en hne
      exact ⟨GR.stay hA hC hM (fun _ _ => rfl) (t1 hne), fun z => absurd z hne⟩
  refine rL_law_1305 h hsc ?_
  refine rL_law_1308 h hsc (k_thrown hl hG) (by decide) hn (fun v m3 e3 => ?_)
  obtain ⟨rfl, rfl⟩ := e3
  refine rL_law_1311 h hsc (fun _ _ => ?_) (fun _ _ _ => ?_) (fun _ q z => absurd ?_ z) (fun q => absurd t0 q)
  · exact rL_law_1335 h hsc (kk _ _ _ hgr.1)
  · exact rL_law_1335 h hsc (kk _ _ _ hgr.1)
  · rw [show m3 93 (0 : Int32).toNatClampNeg = v2 from hgr.2 (nz_cd (by unfold cdCt; (repeat' split) <;> omega) q)]
    exact lg_self _
end C77
