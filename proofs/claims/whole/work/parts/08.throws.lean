/-! ===== methods that may throw ===== -/
def jXC (G : jG) (Ex : String → jM → Prop) : String → State → State → Prop := vx_X (fun u : String × jM => Ex u.1 u.2) (fun nm u t => nm = u.1 ∧ jB G u.2 t) (jA G)
def jXv (l : Launch) (G : jG) (y : MethodName) (cc : ByteArray) (mL h nc : Nat) (av : List Value) (mu : jM) (Q : jM → Prop) (Ex : String → jM → Prop) : Prop :=
  vx_Met l y (jWs y cc mL none) (jR h nc) (va_Pc (av.map (tv G.1)) (fun U => jU G mu U)) (va_Qv Q (jB G) (jA G)) (jXC G Ex) nc (6 * nc) (jA G)
def jXi (l : Launch) (G : jG) (y : MethodName) (cc : ByteArray) (mL h nc : Nat) (ret : Option FieldType) (av : List Value) (mu : jM) (Q : Int32 → jM → Prop) (Ex : String → jM → Prop) : Prop :=
  vx_Met l y (jWs y cc mL ret) (jR h nc) (va_Pc (av.map (tv G.1)) (fun U => jU G mu U)) (va_Qi Q (jB G) (jA G)) (jXC G Ex) nc (6 * nc) (jA G)
def jRx (G : jG) (X : jX) (nc : Nat) (Qr : Array Value → State → Outcome → State → Prop) (Ex : String → jM → Prop) : State → Prop := match X with
  | ((_, _, _, s), (_, args, below, _, _)) => vx_MQ below Qr (jXC G Ex) args s nc (6 * nc) (jA G)
/-- no table of its own -/
def jNt (X : jX) : Prop := match X with
  | (_, (_, _, _, _, c)) => ∀ x ∈ c.exceptionTable.toList, False
section JX
variable {l : Launch} {G : jG} {X : jX} {cc : ByteArray} {nL pc n hg nc : Nat} {ret : Option FieldType} {own : String} {ls st : List Value} {mu : jM} {Ex : String → jM → Prop} {Qr : Array Value → State → Outcome → State → Prop}
theorem J_vretX {Q : jM → Prop} (h : jOk l G X cc nL none own hg nc) (d : decode cc pc = .ok (.return_, 1)) (hn : n ≤ nc) (hq : Q mu) : J l G X (jRx G X nc (va_Qv Q (jB G) (jA G)) Ex) nL pc ls [] mu n := by
  obtain ⟨⟨p, e, R, s⟩, m, args, below, meth, c⟩ := X
  intro H locs Ls hP hS hL
  have hlocks := h.2.2.2.2.2.2.2.2.1
  refine W.widen hn (Nat.mul_le_mul_left 6 hn) (vx_ret ?_)
  exact W.vret h.1 h.2.1 h.2.2.2.2.2.2.2.2.2.1 (fun t ht hW => ⟨⟨mu, rfl, hq, by show va_P _ _ _ t.heap; rw [ht]; exact hP⟩, hS.F ht⟩) hS.2.2 d
theorem J_iretX {Q : Int32 → jM → Prop} {v : Int32} {ty : FieldType} (h : jOk l G X cc nL (some ty) own hg nc) (d : decode cc pc = .ok (.ireturn, 1)) (hnr : narrow ty (.int v) = .int v) (hn : n ≤ nc) (hq : Q v mu) : J l G X (jRx G X nc (va_Qi Q (jB G) (jA G)) Ex) nL pc ls [.int v] mu n := by
  obtain ⟨⟨p, e, R, s⟩, m, args, below, meth, c⟩ := X
  intro H locs Ls hP hS hL
  have hlocks := h.2.2.2.2.2.2.2.2.1
  refine W.widen hn (Nat.mul_le_mul_left 6 hn) (vx_ret ?_)
  exact W.zret h.1 h.2.1 h.2.2.2.2.2.2.2.2.2.1 hnr (fun t ht hW => ⟨⟨v, mu, rfl, hq, by show va_P _ _ _ t.heap; rw [ht]; exact hP⟩, hS.F ht⟩) hS.2.2 d
theorem jXC.at {E : String} {s t : State} {H : Heap} {locs : List Loc} (hq : Ex E mu) (hP : va_P G.2.2.1 vwCl (jW G.1 G.2.1 mu) H) (hS : va_S (jA G) s.heap H locs) (hsz : H.size ≤ t.heap.size) (hkp : ∀ q : Nat, q < H.size → t.heap[q]? = H[q]?) : jXC G Ex E s t :=
  ⟨(E, mu), hq, ⟨rfl, hP.kept (fun k q hk => hkp _ (vx_lt hP hk))⟩, Nat.le_trans hS.1 hsz, fun q h1 h2 => (hkp q (Nat.lt_of_lt_of_le h1 hS.1)).trans (hS.2.1 q h1 h2)⟩
theorem jXv.of {y : MethodName} {mL pad : Nat} {av : List Value} {Q : jM → Prop} (hl : l.stackTraces = false) (hG : jGok G) (hy : plainName y.cls = true) (hlen : (lg_sl (av.map (tv G.1))).length ≤ mL)
    (body : ∀ X : jX, jOk l G X cc mL none y.cls hg nc → jNt X → J l G X (jRx G X nc (va_Qv Q (jB G) (jA G)) Ex) mL 0 (jEn av ++ List.replicate pad (.float 0)) [] mu 0) : jXv l G y cc mL hg nc av mu Q Ex := by
  refine vx_ofW (cc := cc) (maxL := mL) (ret := none) hy rfl ?_
  intro p e s m args below meth c s₁ B hml hnt hv
  obtain ⟨rfl, hU⟩ := hv
  rw [lg_entry_eq]
  have hL := lv_entry (av.map (tv G.1)) (n := mL) hlen
  exact body ((p, e, (headSpec (jWs y cc mL none) (jR hg nc)).room, s), (m, _, below, meth, c)) (jOk.body hl hG B hml hU) hnt s.heap [] _ hU.2.1 va_S.rf (jEn_has hL)
theorem jXi.of {y : MethodName} {mL pad : Nat} {av : List Value} {Q : Int32 → jM → Prop} (hl : l.stackTraces = false) (hG : jGok G) (hy : plainName y.cls = true) (hlen : (lg_sl (av.map (tv G.1))).length ≤ mL)
    (body : ∀ X : jX, jOk l G X cc mL ret y.cls hg nc → jNt X → J l G X (jRx G X nc (va_Qi Q (jB G) (jA G)) Ex) mL 0 (jEn av ++ List.replicate pad (.float 0)) [] mu 0) : jXi l G y cc mL hg nc ret av mu Q Ex := by
  refine vx_ofW (cc := cc) (maxL := mL) (ret := ret) hy rfl ?_
  intro p e s m args below meth c s₁ B hml hnt hv
  obtain ⟨rfl, hU⟩ := hv
  rw [lg_entry_eq]
  have hL := lv_entry (av.map (tv G.1)) (n := mL) hlen
  exact body ((p, e, (headSpec (jWs y cc mL ret) (jR hg nc)).room, s), (m, _, below, meth, c)) (jOk.body hl hG B hml hU) hnt s.heap [] _ hU.2.1 va_S.rf (jEn_has hL)
/-- the words of a throw of E by its entry, among the tables' -/
def jAt (ic : Nat) (E : String) : Prop := (∀ w ∈ vx_atS RX7 ic E ["java/lang/RuntimeException", "java/lang/Exception"], w ∈ jT ∨ w ∈ jN) ∧ (∀ w ∈ vx_atS RX7 ic E ["java/lang/RuntimeException", "java/lang/Exception"], vx_ot w = true) ∧ Bundle.fit E = true
theorem jN_on {w : Cond} (h : jNest w = true) : w.onTables = true := by
  cases w <;> first | (simp [jNest] at h; done) | rfl
/-- 'throw new E("text")' -/
theorem J_throwS {E text : String} {ik is ic : Nat} (h : jOk l G X cc nL ret RX7 hg nc) (ht : jNt X) (hat : jAt ic E) (w1 : Cond.classLink RX7 ik E ∈ jT) (w2 : Cond.initialized E ∈ jT) (hs : (is, text) ∈ jStr)
    (d0 : decode cc pc = .ok (.new ik, 3)) (d3 : decode cc (pc + 3) = .ok (.dup, 1)) (d4 : decode cc (pc + 4) = .ok (.ldc is, 2)) (d6 : decode cc (pc + 6) = .ok (.invokespecial ic, 3)) (d9 : decode cc (pc + 9) = .ok (.athrow, 1))
    (hh : 6 ≤ hg) (hr : (st.map fun v => v.category).sum ≤ 8) (hn : n + 1 ≤ nc) (hq : Ex E mu) : J l G X (jRx G X nc Qr Ex) nL pc ls st mu n := by
  obtain ⟨⟨p, e, R, s⟩, m, args, below, meth, c⟩ := X
  intro H locs Ls hP hS hL
  have hlocks := h.2.2.2.2.2.2.2.2.1
  have q1 := h.2.2.2.2.2.2.2.2.2.2.1
  have q2 := h.2.2.2.2.2.2.2.2.2.2.2.1
  obtain ⟨sa, hsa⟩ := h.2.2.2.2.2.1.2.2.2.2.2.1 _ hs
  have hw : ∀ w ∈ vx_atS RX7 ic E ["java/lang/RuntimeException", "java/lang/Exception"], w.before args s = true := fun w hw => (hat.1 w hw).elim (fun q => h.2.2.2.2.1 w q) (fun q => va_Nw.use (jN_on (List.mem_filter.mp q).2) (h.2.2.2.2.2.1.2.1 w q))
  refine vx_throwS (names := ["java/lang/RuntimeException", "java/lang/Exception"]) h.1 h.2.1 h.2.2.2.2.2.2.2.2.2.2.2.2 h.2.2.2.1 hat.2.2 (by decide) (h.2.2.2.2.1 _ w1) (h.2.2.2.2.1 _ w2) hsa hw ?_ h.2.2.2.2.2.1.2.2.2.1 h.2.2.2.2.2.1.2.2.2.2.1 hS (hL.1.trans h.2.2.1.symm) d0 d3 d4 d6 d9 (fun x hx => (ht x hx).elim) ?_ ?_ (by omega) (by omega) hlocks (fun t _ hsz hkp => jXC.at hq hP hS hsz hkp) hS.2.2 hn (by omega)
  · intro w hw
    rcases List.mem_cons.mp hw with rfl | hw
    · rfl
    rcases List.mem_cons.mp hw with rfl | hw
    · rfl
    · exact hat.2.1 w hw
  · show 2 + 3 < R.frames
    omega
  · rw [jcat]
    show _ + (13 * (2 + 1) + 43) ≤ R.locals
    omega
theorem J_throwW {E text : String} {ik is ic : Nat} (h : jOk l G X cc nL ret RX7 hg nc) (ht : jNt X) (hat : jAt ic E) (w1 : Cond.classLink RX7 ik E ∈ jT) (w2 : Cond.initialized E ∈ jT) (hs : (is, text) ∈ jStr)
    (d0 : decode cc pc = .ok (.new ik, 3)) (d3 : decode cc (pc + 3) = .ok (.dup, 1)) (d4 : decode cc (pc + 4) = .ok (.ldc_w is, 3)) (d7 : decode cc (pc + 7) = .ok (.invokespecial ic, 3)) (d10 : decode cc (pc + 10) = .ok (.athrow, 1))
    (hh : 6 ≤ hg) (hr : (st.map fun v => v.category).sum ≤ 8) (hn : n + 1 ≤ nc) (hq : Ex E mu) : J l G X (jRx G X nc Qr Ex) nL pc ls st mu n := by
  obtain ⟨⟨p, e, R, s⟩, m, args, below, meth, c⟩ := X
  intro H locs Ls hP hS hL
  have hlocks := h.2.2.2.2.2.2.2.2.1
  have q1 := h.2.2.2.2.2.2.2.2.2.2.1
  have q2 := h.2.2.2.2.2.2.2.2.2.2.2.1
  obtain ⟨sa, hsa⟩ := h.2.2.2.2.2.1.2.2.2.2.2.1 _ hs
  have hw : ∀ w ∈ vx_atS RX7 ic E ["java/lang/RuntimeException", "java/lang/Exception"], w.before args s = true := fun w hw => (hat.1 w hw).elim (fun q => h.2.2.2.2.1 w q) (fun q => va_Nw.use (jN_on (List.mem_filter.mp q).2) (h.2.2.2.2.2.1.2.1 w q))
  refine vx_throwSW (names := ["java/lang/RuntimeException", "java/lang/Exception"]) h.1 h.2.1 h.2.2.2.2.2.2.2.2.2.2.2.2 h.2.2.2.1 hat.2.2 (by decide) (h.2.2.2.2.1 _ w1) (h.2.2.2.2.1 _ w2) hsa hw ?_ h.2.2.2.2.2.1.2.2.2.1 h.2.2.2.2.2.1.2.2.2.2.1 hS (hL.1.trans h.2.2.1.symm) d0 d3 d4 d7 d10 (fun x hx => (ht x hx).elim) ?_ ?_ (by omega) (by omega) hlocks (fun t _ hsz hkp => jXC.at hq hP hS hsz hkp) hS.2.2 hn (by omega)
  · intro w hw
    rcases List.mem_cons.mp hw with rfl | hw
    · rfl
    rcases List.mem_cons.mp hw with rfl | hw
    · rfl
    · exact hat.2.1 w hw
  · show 2 + 3 < R.frames
    omega
  · rw [jcat]
    show _ + (13 * (2 + 1) + 43) ≤ R.locals
    omega
variable {y : MethodName} {bytes : ByteArray} {mL h' idx a k ci N nc' : Nat} {C : String} {T : u_T} {fl : List (Option Nat)} {As rest : List Value} {rt : Option FieldType} {Ec : String → jM → Prop}
theorem J_callXv {Qc : jM → Prop} (h : jOk l G X cc nL ret own hg nc) (ht : jNt X) (d : decode cc pc = .ok (.invokevirtual idx, 3)) (hM : jXv l G y bytes mL h' nc' (.ref a :: As) mu Qc Ec) (hg' : GoodIn jT (wsV own idx C y (jWs y bytes mL none))) (hyC : y.cls = C) (hC : vwCl[ci]? = some (C, T, N)) (hd : jShp[a]? = some (.inl (ci, fl))) (hnm : jNm y k) (hk : As.length = k) (hh : h' < hg ∧ mL ≤ 21) (hr : (rest.map fun v => v.category).sum ≤ 8)
    (hst : st = As.reverse ++ .ref a :: rest) (hn : n + nc' ≤ nc) (kx : ∀ E mu', Ec E mu' → Ex E mu') (kk : ∀ mu', Qc mu' → J l G X (jRx G X nc Qr Ex) nL (pc + 3) ls rest mu' (n + nc')) : J l G X (jRx G X nc Qr Ex) nL pc ls st mu n := by
  subst hst
  obtain ⟨⟨p, e, R, s⟩, m, args, below, meth, c⟩ := X
  intro H locs Ls hP hS hL
  have hcell : (jW G.1 G.2.1 mu)[a]? = some (G.1 a, .inr (ci, jF G.1 (mu a) 0 fl)) := jW_at hd
  have q2 := h.2.2.2.2.2.2.2.2.2.2.2.1
  have hcap : n + nc' ≤ R.cells ∧ 6 * n + 6 * nc' ≤ R.slots := by omega
  have hroom : (jR h' nc').frames + 1 ≤ R.frames ∧ 8 + (mL + 11) + (jR h' nc').locals ≤ R.locals := by
    have q := h.2.2.2.2.2.2.2.2.2.2.1
    simp only [jR]
    omega
  have hlocks := h.2.2.2.2.2.2.2.2.1
  rw [jrev]
  refine vx_callv (vx_runV (As := As.map (tv G.1)) (rest := rest.map (tv G.1)) (C := C) (b := G.1 a) ⟨h.1, h.2.1, h.2.2.1, h.2.2.2.1, h.2.2.2.2.1⟩ hM (cwV k h.2.2.2.2.1 hg' rfl rfl rfl ⟨hyC, hnm⟩ hroom) ⟨jBlind, va_recv h.2.2.2.2.2.1.1 hP hC hcell, fun U hU hW => ⟨rfl, jU.call h.2.2.2.2.2.2.2.1 h.2.2.2.2.2.1 hP hS hU hW⟩⟩ rfl (by rw [List.length_map]; exact hk) hL.1 rfl (lv_room (by rw [jcat]; exact hr)) d hcap) hS (fun q _ hq => hq) (fun q hq => hq) (fun q _ hq => hq) (fun E ce q9 u t H1 locs1 e1 _ hpx hB _ _ hS1 hce hcv hcl => ?_) (fun mu' t H1 locs1 e1 _ hq hB _ _ hS1 => ?_)
  · obtain ⟨rfl, hB⟩ := hB
    refine vx_out (fun x hx => (ht x hx).elim) hlocks hce hcv hcl (fun t2 ht2 _ => ?_) hS1.2.2 hn (by omega)
    exact jXC.at (kx _ _ hpx) (by rw [← e1]; exact hB) hS1 (by rw [ht2]; exact Nat.le_refl _) (fun q _ => by rw [ht2])
  · have := kk mu' hq H1 locs1 Ls (by rw [← e1]; exact hB) hS1 hL
    rw [Nat.mul_add] at this
    exact this
theorem J_callXi {Qc : Int32 → jM → Prop} (h : jOk l G X cc nL ret own hg nc) (ht : jNt X) (d : decode cc pc = .ok (.invokevirtual idx, 3)) (hM : jXi l G y bytes mL h' nc' rt (.ref a :: As) mu Qc Ec) (hg' : GoodIn jT (wsV own idx C y (jWs y bytes mL rt))) (hyC : y.cls = C) (hC : vwCl[ci]? = some (C, T, N)) (hd : jShp[a]? = some (.inl (ci, fl))) (hnm : jNm y k) (hk : As.length = k) (hh : h' < hg ∧ mL ≤ 21) (hr : (rest.map fun v => v.category).sum ≤ 8)
    (hst : st = As.reverse ++ .ref a :: rest) (hn : n + nc' ≤ nc) (kx : ∀ E mu', Ec E mu' → Ex E mu') (kk : ∀ v mu', Qc v mu' → J l G X (jRx G X nc Qr Ex) nL (pc + 3) ls (.int v :: rest) mu' (n + nc')) : J l G X (jRx G X nc Qr Ex) nL pc ls st mu n := by
  subst hst
  obtain ⟨⟨p, e, R, s⟩, m, args, below, meth, c⟩ := X
  intro H locs Ls hP hS hL
  have hcell : (jW G.1 G.2.1 mu)[a]? = some (G.1 a, .inr (ci, jF G.1 (mu a) 0 fl)) := jW_at hd
  have q2 := h.2.2.2.2.2.2.2.2.2.2.2.1
  have hcap : n + nc' ≤ R.cells ∧ 6 * n + 6 * nc' ≤ R.slots := by omega
  have hroom : (jR h' nc').frames + 1 ≤ R.frames ∧ 8 + (mL + 11) + (jR h' nc').locals ≤ R.locals := by
    have q := h.2.2.2.2.2.2.2.2.2.2.1
    simp only [jR]
    omega
  have hlocks := h.2.2.2.2.2.2.2.2.1
  rw [jrev]
  refine vx_calli (vx_runV (As := As.map (tv G.1)) (rest := rest.map (tv G.1)) (C := C) (b := G.1 a) ⟨h.1, h.2.1, h.2.2.1, h.2.2.2.1, h.2.2.2.2.1⟩ hM (cwV k h.2.2.2.2.1 hg' rfl rfl rfl ⟨hyC, hnm⟩ hroom) ⟨jBlind, va_recv h.2.2.2.2.2.1.1 hP hC hcell, fun U hU hW => ⟨rfl, jU.call h.2.2.2.2.2.2.2.1 h.2.2.2.2.2.1 hP hS hU hW⟩⟩ rfl (by rw [List.length_map]; exact hk) hL.1 rfl (lv_room (by rw [jcat]; exact hr)) d hcap) hS (fun q _ hq => hq) (fun q hq => hq) (fun q _ hq => hq) (fun E ce q9 u t H1 locs1 e1 _ hpx hB _ _ hS1 hce hcv hcl => ?_) (fun v mu' t H1 locs1 e1 _ hq hB _ _ hS1 => ?_)
  · obtain ⟨rfl, hB⟩ := hB
    refine vx_out (fun x hx => (ht x hx).elim) hlocks hce hcv hcl (fun t2 ht2 _ => ?_) hS1.2.2 hn (by omega)
    exact jXC.at (kx _ _ hpx) (by rw [← e1]; exact hB) hS1 (by rw [ht2]; exact Nat.le_refl _) (fun q _ => by rw [ht2])
  · have := kk v mu' hq H1 locs1 Ls (by rw [← e1]; exact hB) hS1 hL
    rw [Nat.mul_add] at this
    exact this
theorem J_callXS {Qc : jM → Prop} (h : jOk l G X cc nL ret own hg nc) (ht : jNt X) (d : decode cc pc = .ok (.invokestatic idx, 3)) (hM : jXv l G y bytes mL h' nc' As mu Qc Ec) (hg' : GoodIn jT (va_wsS own idx y (jWs y bytes mL none))) (hnm : jNm y k) (hk : As.length = k) (hh : h' < hg ∧ mL ≤ 21) (hr : (rest.map fun v => v.category).sum ≤ 8)
    (hst : st = As.reverse ++ rest) (hn : n + nc' ≤ nc) (kx : ∀ E mu', Ec E mu' → Ex E mu') (kk : ∀ mu', Qc mu' → J l G X (jRx G X nc Qr Ex) nL (pc + 3) ls rest mu' (n + nc')) : J l G X (jRx G X nc Qr Ex) nL pc ls st mu n := by
  subst hst
  obtain ⟨⟨p, e, R, s⟩, m, args, below, meth, c⟩ := X
  intro H locs Ls hP hS hL
  have q2 := h.2.2.2.2.2.2.2.2.2.2.2.1
  have hcap : n + nc' ≤ R.cells ∧ 6 * n + 6 * nc' ≤ R.slots := by omega
  have hroom : (jR h' nc').frames + 1 ≤ R.frames ∧ 8 + (mL + 11) + (jR h' nc').locals ≤ R.locals := by
    have q := h.2.2.2.2.2.2.2.2.2.2.1
    simp only [jR]
    omega
  have hlocks := h.2.2.2.2.2.2.2.2.1
  rw [jrev]
  refine vx_callv (vx_runS (As := As.map (tv G.1)) (rest := rest.map (tv G.1)) ⟨h.1, h.2.1, h.2.2.1, h.2.2.2.1, h.2.2.2.2.1⟩ hM (va_cwS k h.2.2.2.2.1 hg' rfl rfl rfl hnm hroom) ⟨jBlind, fun U hU hW => ⟨rfl, jU.call h.2.2.2.2.2.2.2.1 h.2.2.2.2.2.1 hP hS hU hW⟩⟩ rfl (by rw [List.length_map]; exact hk) hL.1 rfl (lv_room (by rw [jcat]; exact hr)) d hcap) hS (fun q _ hq => hq) (fun q hq => hq) (fun q _ hq => hq) (fun E ce q9 u t H1 locs1 e1 _ hpx hB _ _ hS1 hce hcv hcl => ?_) (fun mu' t H1 locs1 e1 _ hq hB _ _ hS1 => ?_)
  · obtain ⟨rfl, hB⟩ := hB
    refine vx_out (fun x hx => (ht x hx).elim) hlocks hce hcv hcl (fun t2 ht2 _ => ?_) hS1.2.2 hn (by omega)
    exact jXC.at (kx _ _ hpx) (by rw [← e1]; exact hB) hS1 (by rw [ht2]; exact Nat.le_refl _) (fun q _ => by rw [ht2])
  · have := kk mu' hq H1 locs1 Ls (by rw [← e1]; exact hB) hS1 hL
    rw [Nat.mul_add] at this
    exact this
end JX
