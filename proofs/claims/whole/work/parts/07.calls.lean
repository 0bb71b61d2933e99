/-! ===== contracts over the fixed cells, and calls by them ===== -/
/-- a method that returns nothing and makes nothing -/
def jCv (l : Launch) (G : jG) (y : MethodName) (cc : ByteArray) (mL h : Nat) (av : List Value) (mu : jM) (Q : jM → Prop) : Prop :=
  Met l y (jWs y cc mL none) (jR h 0) (va_Pc (av.map (tv G.1)) (fun U => jU G mu U)) (va_Qv Q (jB G) (jA G)) 0 0 (jA G)
/-- a method that returns an int (or a boolean) and makes nothing -/
def jCi (l : Launch) (G : jG) (y : MethodName) (cc : ByteArray) (mL h : Nat) (ret : Option FieldType) (av : List Value) (mu : jM) (Q : Int32 → jM → Prop) : Prop :=
  Met l y (jWs y cc mL ret) (jR h 0) (va_Pc (av.map (tv G.1)) (fun U => jU G mu U)) (va_Qi Q (jB G) (jA G)) 0 0 (jA G)
/-- what a body owes at its end -/
def jRv (G : jG) (X : jX) (Q : jM → Prop) : State → Prop := match X with
  | ((_, _, _, s), (_, args, below, _, _)) => MQ below (va_Qv Q (jB G) (jA G)) args s 0 0 (jA G)
def jRi (G : jG) (X : jX) (Q : Int32 → jM → Prop) : State → Prop := match X with
  | ((_, _, _, s), (_, args, below, _, _)) => MQ below (va_Qi Q (jB G) (jA G)) args s 0 0 (jA G)
section JC
variable {l : Launch} {G : jG} {X : jX} {cc : ByteArray} {nL pc n hg nc : Nat} {ret : Option FieldType} {own : String} {ls st : List Value} {mu : jM}
theorem J_vret {Q : jM → Prop} (h : jOk l G X cc nL none own hg nc) (d : decode cc pc = .ok (.return_, 1)) (hq : Q mu) : J l G X (jRv G X Q) nL pc ls [] mu 0 := by
  obtain ⟨⟨p, e, R, s⟩, m, args, below, meth, c⟩ := X
  intro H locs Ls hP hS hL
  have hlocks := h.2.2.2.2.2.2.2.2.1
  exact W.vret h.1 h.2.1 h.2.2.2.2.2.2.2.2.2.1 (fun t ht hW => ⟨⟨mu, rfl, hq, by show va_P _ _ _ t.heap; rw [ht]; exact hP⟩, hS.F ht⟩) hS.2.2 d
theorem J_iret {Q : Int32 → jM → Prop} {v : Int32} {ty : FieldType} (h : jOk l G X cc nL (some ty) own hg nc) (d : decode cc pc = .ok (.ireturn, 1)) (hn : narrow ty (.int v) = .int v) (hq : Q v mu) : J l G X (jRi G X Q) nL pc ls [.int v] mu 0 := by
  obtain ⟨⟨p, e, R, s⟩, m, args, below, meth, c⟩ := X
  intro H locs Ls hP hS hL
  have hlocks := h.2.2.2.2.2.2.2.2.1
  exact W.zret h.1 h.2.1 h.2.2.2.2.2.2.2.2.2.1 hn (fun t ht hW => ⟨⟨v, mu, rfl, hq, by show va_P _ _ _ t.heap; rw [ht]; exact hP⟩, hS.F ht⟩) hS.2.2 d
theorem jOk.body {p : Program} {e : Env} {s s₁ : State} {m : MethodId} {args : Array Value} {below : List Frame} {meth : Method} {c : Code} {y : MethodName} {mL : Nat} {n : Nat} (hl : l.stackTraces = false) (hG : jGok G) (B : BodyLoose p l y (headSpec (jWs y cc mL ret) (jR hg n)) cc mL ret e s m args below meth c s₁) (hml : c.maxLocals = mL) (hU : jU G mu s) :
    jOk l G ((p, e, (headSpec (jWs y cc mL ret) (jR hg n)).room, s), (m, args, below, meth, c)) cc mL ret y.cls hg n :=
  ⟨B.exec, B.bytes, hml, findClass_of_methodNamed B.named, fun w hw => atoms_spec (ws := jWs y cc mL ret) B.pre w (List.mem_cons_of_mem _ hw), hU.2.2, hG, hU.1, B.notSynchronized, B.returns, ⟨Nat.le_refl _, Nat.le_refl _⟩, ⟨Nat.le_refl _, Nat.le_refl _⟩, hl⟩
theorem jCv.of {y : MethodName} {mL pad : Nat} {av : List Value} {Q : jM → Prop} (hl : l.stackTraces = false) (hG : jGok G) (hy : plainName y.cls = true) (hlen : (lg_sl (av.map (tv G.1))).length ≤ mL)
    (body : ∀ X : jX, jOk l G X cc mL none y.cls hg 0 → J l G X (jRv G X Q) mL 0 (jEn av ++ List.replicate pad (.float 0)) [] mu 0) : jCv l G y cc mL hg av mu Q := by
  refine Met.ofW (cc := cc) (maxL := mL) (ret := none) hy rfl ?_
  intro p e s m args below meth c s₁ B hml hv
  obtain ⟨rfl, hU⟩ := hv
  rw [lg_entry_eq]
  have hL := lv_entry (av.map (tv G.1)) (n := mL) hlen
  exact body ((p, e, (headSpec (jWs y cc mL none) (jR hg 0)).room, s), (m, _, below, meth, c)) (jOk.body hl hG B hml hU) s.heap [] _ hU.2.1 va_S.rf (jEn_has hL)
theorem jCi.of {y : MethodName} {mL pad : Nat} {av : List Value} {Q : Int32 → jM → Prop} (hl : l.stackTraces = false) (hG : jGok G) (hy : plainName y.cls = true) (hlen : (lg_sl (av.map (tv G.1))).length ≤ mL)
    (body : ∀ X : jX, jOk l G X cc mL ret y.cls hg 0 → J l G X (jRi G X Q) mL 0 (jEn av ++ List.replicate pad (.float 0)) [] mu 0) : jCi l G y cc mL hg ret av mu Q := by
  refine Met.ofW (cc := cc) (maxL := mL) (ret := ret) hy rfl ?_
  intro p e s m args below meth c s₁ B hml hv
  obtain ⟨rfl, hU⟩ := hv
  rw [lg_entry_eq]
  have hL := lv_entry (av.map (tv G.1)) (n := mL) hlen
  exact body ((p, e, (headSpec (jWs y cc mL ret) (jR hg 0)).room, s), (m, _, below, meth, c)) (jOk.body hl hG B hml hU) s.heap [] _ hU.2.1 va_S.rf (jEn_has hL)
end JC
/-- a callee's name and number of arguments -/
def jNm (y : MethodName) (k : Nat) : Prop := y.cls ≠ "java/lang/invoke/MethodHandle" ∧ y.cls ≠ "java/lang/invoke/VarHandle" ∧ (parseMethodDescriptor y.desc).map (fun d => d.parameters.length) = some k
theorem jgV {own C : String} {idx mL : Nat} {y : MethodName} {bytes : ByteArray} {ret : Option FieldType} (w1 : Cond.methodLink own idx y ∈ jT) (w2 : Cond.instanceMethod y ∈ jT) (w3 : Cond.selects C y y ∈ jT) (w4 : Cond.initialized C ∈ jT) (w5 : Cond.code y bytes mL ret ∈ jT) : GoodIn jT (wsV own idx C y (jWs y bytes mL ret)) := fun w hw => by
  rcases List.mem_append.mp hw with hw | hw
  · simp only [List.mem_cons, List.not_mem_nil, or_false] at hw
    rcases hw with rfl | rfl | rfl | rfl
    · exact jT_goodIn _ w1
    · exact jT_goodIn _ w2
    · exact jT_goodIn _ w3
    · exact jT_goodIn _ w4
  · exact jWs_good w5 w hw
theorem jgS {own : String} {idx mL : Nat} {y : MethodName} {bytes : ByteArray} {ret : Option FieldType} (w1 : Cond.methodLink own idx y ∈ jT) (w2 : Cond.static y ∈ jT) (w3 : Cond.initialized y.cls ∈ jT) (w5 : Cond.code y bytes mL ret ∈ jT) : GoodIn jT (va_wsS own idx y (jWs y bytes mL ret)) := fun w hw => by
  rcases List.mem_append.mp hw with hw | hw
  · simp only [List.mem_cons, List.not_mem_nil, or_false] at hw
    rcases hw with rfl | rfl | rfl
    · exact jT_goodIn _ w1
    · exact jT_goodIn _ w2
    · exact jT_goodIn _ w3
  · exact jWs_good w5 w hw
theorem jBlind {G : jG} {av : List Value} {mu : jM} : FrameBlind (va_Pc av (fun U => jU G mu U)) := fun a U g mk q =>
  ⟨q.1, jU.call (s := U) (H := U.heap) (locs := []) q.2.1 q.2.2.2 q.2.2.1 va_S.rf rfl (State.WarmedH.refl U)⟩
theorem jcat (ad : Nat → Nat) (rest : List Value) : ((rest.map (tv ad)).map fun v => v.category).sum = (rest.map fun v => v.category).sum := by
  rw [List.map_map]
  exact congrArg List.sum (List.map_congr_left fun v _ => tv_cat ad v)
theorem jrev (ad : Nat → Nat) (As rest : List Value) : (As.reverse ++ rest).map (tv ad) = (As.map (tv ad)).reverse ++ rest.map (tv ad) := by
  rw [List.map_append, List.map_reverse]
section JCall
variable {l : Launch} {G : jG} {X : jX} {Q : State → Prop} {cc : ByteArray} {nL pc n hg nc : Nat} {ret : Option FieldType} {own : String} {ls st : List Value} {mu : jM}
variable {y : MethodName} {bytes : ByteArray} {mL h' idx a k ci N : Nat} {C : String} {T : u_T} {fl : List (Option Nat)} {As rest : List Value} {rt : Option FieldType}
theorem J_callV {Qc : jM → Prop} (h : jOk l G X cc nL ret own hg nc) (d : decode cc pc = .ok (.invokevirtual idx, 3)) (hM : jCv l G y bytes mL h' (.ref a :: As) mu Qc) (hg' : GoodIn jT (wsV own idx C y (jWs y bytes mL none))) (hyC : y.cls = C) (hC : vwCl[ci]? = some (C, T, N)) (hd : jShp[a]? = some (.inl (ci, fl))) (hnm : jNm y k) (hk : As.length = k) (hh : h' < hg ∧ mL ≤ 21) (hr : (rest.map fun v => v.category).sum ≤ 8)
    (hst : st = As.reverse ++ .ref a :: rest) (kk : ∀ mu', Qc mu' → J l G X Q nL (pc + 3) ls rest mu' n) (hn : n ≤ nc) : J l G X Q nL pc ls st mu n := by
  subst hst
  obtain ⟨⟨p, e, R, s⟩, m, args, below, meth, c⟩ := X
  intro H locs Ls hP hS hL
  have hcell : (jW G.1 G.2.1 mu)[a]? = some (G.1 a, .inr (ci, jF G.1 (mu a) 0 fl)) := jW_at hd
  have hcap : n ≤ R.cells ∧ 6 * n ≤ R.slots := ⟨Nat.le_trans hn h.2.2.2.2.2.2.2.2.2.2.2.1.1, Nat.le_trans (Nat.mul_le_mul_left 6 hn) h.2.2.2.2.2.2.2.2.2.2.2.1.2⟩
  have hroom : (jR h' 0).frames + 1 ≤ R.frames ∧ 8 + (mL + 11) + (jR h' 0).locals ≤ R.locals := by
    have q := h.2.2.2.2.2.2.2.2.2.2.1
    simp only [jR]
    omega
  rw [jrev]
  refine va_callv (va_runV (As := As.map (tv G.1)) (rest := rest.map (tv G.1)) (C := C) (b := G.1 a) ⟨h.1, h.2.1, h.2.2.1, h.2.2.2.1, h.2.2.2.2.1⟩ hM (cwV k h.2.2.2.2.1 hg' rfl rfl rfl ⟨hyC, hnm⟩ hroom) ⟨jBlind, va_recv h.2.2.2.2.2.1.1 hP hC hcell, fun U hU hW => ⟨rfl, jU.call h.2.2.2.2.2.2.2.1 h.2.2.2.2.2.1 hP hS hU hW⟩⟩ rfl (by rw [List.length_map]; exact hk) hL.1 rfl (lv_room (by rw [jcat]; exact hr)) d hcap) hS (fun q _ hq => hq) (fun q hq => hq) (fun mu' t H1 locs1 ht _ hq hB _ _ hS1 => ?_)
  exact kk mu' hq H1 locs1 Ls (by rw [← ht]; exact hB) hS1 hL
theorem J_callVi {Qc : Int32 → jM → Prop} (h : jOk l G X cc nL ret own hg nc) (d : decode cc pc = .ok (.invokevirtual idx, 3)) (hM : jCi l G y bytes mL h' rt (.ref a :: As) mu Qc) (hg' : GoodIn jT (wsV own idx C y (jWs y bytes mL rt))) (hyC : y.cls = C) (hC : vwCl[ci]? = some (C, T, N)) (hd : jShp[a]? = some (.inl (ci, fl))) (hnm : jNm y k) (hk : As.length = k) (hh : h' < hg ∧ mL ≤ 21) (hr : (rest.map fun v => v.category).sum ≤ 8)
    (hst : st = As.reverse ++ .ref a :: rest) (kk : ∀ v mu', Qc v mu' → J l G X Q nL (pc + 3) ls (.int v :: rest) mu' n) (hn : n ≤ nc) : J l G X Q nL pc ls st mu n := by
  subst hst
  obtain ⟨⟨p, e, R, s⟩, m, args, below, meth, c⟩ := X
  intro H locs Ls hP hS hL
  have hcell : (jW G.1 G.2.1 mu)[a]? = some (G.1 a, .inr (ci, jF G.1 (mu a) 0 fl)) := jW_at hd
  have hcap : n ≤ R.cells ∧ 6 * n ≤ R.slots := ⟨Nat.le_trans hn h.2.2.2.2.2.2.2.2.2.2.2.1.1, Nat.le_trans (Nat.mul_le_mul_left 6 hn) h.2.2.2.2.2.2.2.2.2.2.2.1.2⟩
  have hroom : (jR h' 0).frames + 1 ≤ R.frames ∧ 8 + (mL + 11) + (jR h' 0).locals ≤ R.locals := by
    have q := h.2.2.2.2.2.2.2.2.2.2.1
    simp only [jR]
    omega
  rw [jrev]
  refine va_calli (va_runV (As := As.map (tv G.1)) (rest := rest.map (tv G.1)) (C := C) (b := G.1 a) ⟨h.1, h.2.1, h.2.2.1, h.2.2.2.1, h.2.2.2.2.1⟩ hM (cwV k h.2.2.2.2.1 hg' rfl rfl rfl ⟨hyC, hnm⟩ hroom) ⟨jBlind, va_recv h.2.2.2.2.2.1.1 hP hC hcell, fun U hU hW => ⟨rfl, jU.call h.2.2.2.2.2.2.2.1 h.2.2.2.2.2.1 hP hS hU hW⟩⟩ rfl (by rw [List.length_map]; exact hk) hL.1 rfl (lv_room (by rw [jcat]; exact hr)) d hcap) hS (fun q _ hq => hq) (fun q hq => hq) (fun v mu' t H1 locs1 ht _ hq hB _ _ hS1 => ?_)
  exact kk v mu' hq H1 locs1 Ls (by rw [← ht]; exact hB) hS1 hL
theorem J_callS {Qc : jM → Prop} (h : jOk l G X cc nL ret own hg nc) (d : decode cc pc = .ok (.invokestatic idx, 3)) (hM : jCv l G y bytes mL h' As mu Qc) (hg' : GoodIn jT (va_wsS own idx y (jWs y bytes mL none))) (hnm : jNm y k) (hk : As.length = k) (hh : h' < hg ∧ mL ≤ 21) (hr : (rest.map fun v => v.category).sum ≤ 8)
    (hst : st = As.reverse ++ rest) (kk : ∀ mu', Qc mu' → J l G X Q nL (pc + 3) ls rest mu' n) (hn : n ≤ nc) : J l G X Q nL pc ls st mu n := by
  subst hst
  obtain ⟨⟨p, e, R, s⟩, m, args, below, meth, c⟩ := X
  intro H locs Ls hP hS hL
  have hcap : n ≤ R.cells ∧ 6 * n ≤ R.slots := ⟨Nat.le_trans hn h.2.2.2.2.2.2.2.2.2.2.2.1.1, Nat.le_trans (Nat.mul_le_mul_left 6 hn) h.2.2.2.2.2.2.2.2.2.2.2.1.2⟩
  have hroom : (jR h' 0).frames + 1 ≤ R.frames ∧ 8 + (mL + 11) + (jR h' 0).locals ≤ R.locals := by
    have q := h.2.2.2.2.2.2.2.2.2.2.1
    simp only [jR]
    omega
  rw [jrev]
  refine va_callv (va_runS (As := As.map (tv G.1)) (rest := rest.map (tv G.1)) ⟨h.1, h.2.1, h.2.2.1, h.2.2.2.1, h.2.2.2.2.1⟩ hM (va_cwS k h.2.2.2.2.1 hg' rfl rfl rfl hnm hroom) ⟨jBlind, fun U hU hW => ⟨rfl, jU.call h.2.2.2.2.2.2.2.1 h.2.2.2.2.2.1 hP hS hU hW⟩⟩ rfl (by rw [List.length_map]; exact hk) hL.1 rfl (lv_room (by rw [jcat]; exact hr)) d hcap) hS (fun q _ hq => hq) (fun q hq => hq) (fun mu' t H1 locs1 ht _ hq hB _ _ hS1 => ?_)
  exact kk mu' hq H1 locs1 Ls (by rw [← ht]; exact hB) hS1 hL
theorem J_callSi {Qc : Int32 → jM → Prop} (h : jOk l G X cc nL ret own hg nc) (d : decode cc pc = .ok (.invokestatic idx, 3)) (hM : jCi l G y bytes mL h' rt As mu Qc) (hg' : GoodIn jT (va_wsS own idx y (jWs y bytes mL rt))) (hnm : jNm y k) (hk : As.length = k) (hh : h' < hg ∧ mL ≤ 21) (hr : (rest.map fun v => v.category).sum ≤ 8)
    (hst : st = As.reverse ++ rest) (kk : ∀ v mu', Qc v mu' → J l G X Q nL (pc + 3) ls (.int v :: rest) mu' n) (hn : n ≤ nc) : J l G X Q nL pc ls st mu n := by
  subst hst
  obtain ⟨⟨p, e, R, s⟩, m, args, below, meth, c⟩ := X
  intro H locs Ls hP hS hL
  have hcap : n ≤ R.cells ∧ 6 * n ≤ R.slots := ⟨Nat.le_trans hn h.2.2.2.2.2.2.2.2.2.2.2.1.1, Nat.le_trans (Nat.mul_le_mul_left 6 hn) h.2.2.2.2.2.2.2.2.2.2.2.1.2⟩
  have hroom : (jR h' 0).frames + 1 ≤ R.frames ∧ 8 + (mL + 11) + (jR h' 0).locals ≤ R.locals := by
    have q := h.2.2.2.2.2.2.2.2.2.2.1
    simp only [jR]
    omega
  rw [jrev]
  refine va_calli (va_runS (As := As.map (tv G.1)) (rest := rest.map (tv G.1)) ⟨h.1, h.2.1, h.2.2.1, h.2.2.2.1, h.2.2.2.2.1⟩ hM (va_cwS k h.2.2.2.2.1 hg' rfl rfl rfl hnm hroom) ⟨jBlind, fun U hU hW => ⟨rfl, jU.call h.2.2.2.2.2.2.2.1 h.2.2.2.2.2.1 hP hS hU hW⟩⟩ rfl (by rw [List.length_map]; exact hk) hL.1 rfl (lv_room (by rw [jcat]; exact hr)) d hcap) hS (fun q _ hq => hq) (fun q hq => hq) (fun v mu' t H1 locs1 ht _ hq hB _ _ hS1 => ?_)
  exact kk v mu' hq H1 locs1 Ls (by rw [← ht]; exact hB) hS1 hL
/-- a private static method of a nest mate -/
theorem J_callSNi {host : String} {Qc : Int32 → jM → Prop} (h : jOk l G X cc nL ret own hg nc) (d : decode cc pc = .ok (.invokestatic idx, 3)) (hM : jCi l G y bytes mL h' rt As mu Qc) (hw : Cond.methodLinkNest own idx y host ∈ jN) (hw2 : Cond.static y ∈ jT) (hw3 : Cond.initialized y.cls ∈ jT) (hw5 : Cond.code y bytes mL rt ∈ jT) (hnm : jNm y k) (hk : As.length = k) (hh : h' < hg ∧ mL ≤ 21) (hr : (rest.map fun v => v.category).sum ≤ 8)
    (hst : st = As.reverse ++ rest) (kk : ∀ v mu', Qc v mu' → J l G X Q nL (pc + 3) ls (.int v :: rest) mu' n) (hn : n ≤ nc) : J l G X Q nL pc ls st mu n := by
  subst hst
  obtain ⟨⟨p, e, R, s⟩, m, args, below, meth, c⟩ := X
  intro H locs Ls hP hS hL
  have hcap : n ≤ R.cells ∧ 6 * n ≤ R.slots := ⟨Nat.le_trans hn h.2.2.2.2.2.2.2.2.2.2.2.1.1, Nat.le_trans (Nat.mul_le_mul_left 6 hn) h.2.2.2.2.2.2.2.2.2.2.2.1.2⟩
  have hroom : (jR h' 0).frames + 1 ≤ R.frames ∧ 8 + (mL + 11) + (jR h' 0).locals ≤ R.locals := by
    have q := h.2.2.2.2.2.2.2.2.2.2.1
    simp only [jR]
    omega
  rw [jrev]
  refine va_calli (va_runSN (As := As.map (tv G.1)) (rest := rest.map (tv G.1)) ⟨h.1, h.2.1, h.2.2.1, h.2.2.2.1, h.2.2.2.2.1⟩ hM ⟨va_cnB k h.2.2.2.2.1 (jWs_good hw5) rfl rfl rfl (h.2.2.2.2.2.1.2.1 _ hw) (h.2.2.2.2.1 _ hw3) hnm hroom, h.2.2.2.2.1 _ hw2, trivial⟩ ⟨jBlind, fun U hU hW => ⟨rfl, jU.call h.2.2.2.2.2.2.2.1 h.2.2.2.2.2.1 hP hS hU hW⟩⟩ rfl (by rw [List.length_map]; exact hk) hL.1 rfl (lv_room (by rw [jcat]; exact hr)) d hcap) hS (fun q _ hq => hq) (fun q hq => hq) (fun v mu' t H1 locs1 ht _ hq hB _ _ hS1 => ?_)
  exact kk v mu' hq H1 locs1 Ls (by rw [← ht]; exact hB) hS1 hL
/-- System.arraycopy between int arrays of the cells -/
theorem J_copy {a0 n0 n1 : Nat} {rf0 rf1 : Nat → Option Nat} {sp dp z : Int32} (h : jOk l G X cc nL ret own hg nc) (d : decode cc pc = .ok (.invokestatic idx, 3)) (w1 : Cond.methodLink own idx arraycopyName ∈ jT) (w2 : Cond.native arraycopyName ∈ jT) (w3 : Cond.static arraycopyName ∈ jT) (w4 : Cond.initialized "java/lang/System" ∈ jT) (hd0 : jShp[a0]? = some (.inr (0, n0, rf0))) (hd1 : jShp[a]? = some (.inr (0, n1, rf1)))
    (h1 : ¬ sp < 0) (h2 : ¬ dp < 0) (h3 : ¬ z < 0) (h4 : sp.toNatClampNeg + z.toNatClampNeg ≤ n0) (h5 : dp.toNatClampNeg + z.toNatClampNeg ≤ n1) (hr : (rest.map fun v => v.category).sum ≤ 8) (hh : 1 ≤ hg)
    (kk : J l G X Q nL (pc + 3) ls rest (jPut mu a (va_cpy (mu a0) (mu a) sp.toNatClampNeg dp.toNatClampNeg z.toNatClampNeg)) n) : J l G X Q nL pc ls (.int z :: .int dp :: .ref a :: .int sp :: .ref a0 :: rest) mu n := by
  obtain ⟨⟨p, e, R, s⟩, m, args, below, meth, c⟩ := X
  intro H locs Ls hP hS hL
  have q := h.2.2.2.2.2.2.2.2.2.2.1
  have hl9 : ((rest.map (tv G.1)).map fun v => v.category).sum + (nativeFrameWords "java/lang/System" "arraycopy" 5 + 11) ≤ R.locals := by
    rw [jcat]
    have : nativeFrameWords "java/lang/System" "arraycopy" 5 + 11 ≤ 32 := by decide
    omega
  refine va_copyi h.1 h.2.1 (h.2.2.1.trans hL.1.symm) h.2.2.2.1 (h.2.2.2.2.1 _ w1) (h.2.2.2.2.1 _ w2) (h.2.2.2.2.1 _ w3) (h.2.2.2.2.1 _ w4) h.2.2.2.2.2.1.1 hP (h.2.2.2.2.2.2.1 mu) hS a0 a 0 0 (jW_at hd0) (jW_at hd1) rfl rfl (ty := .int) rfl h1 h2 h3 h4 h5 (fun i _ => rfl) (by omega) hl9 d (fun H1 locs1 hP1 _ hS1 => ?_)
  rw [← jE_i G.1 G.2.1 _ n1 rf1, jW_set hd1] at hP1
  exact kk H1 locs1 Ls hP1 hS1 hL
end JCall
