/-! ===== methods of the law: throws that are taken up there ===== -/
def jWh (y : MethodName) (cc : ByteArray) (mL : Nat) (ret : Option FieldType) (hh : List (Nat × Nat × Nat × Nat)) : List Cond := .codeWith y cc mL ret hh :: jT
/-- a method of the law with a table of its own: it answers an int, and nothing leaves it by a throw -/
def jL (l : Launch) (G : jG) (y : MethodName) (cc : ByteArray) (mL h nc : Nat) (hh : List (Nat × Nat × Nat × Nat)) (av : List Value) (mu : jM) (Q : Int32 → jM → Prop) : Prop :=
  vx_Met l y (jWh y cc mL (some .int) hh) (jR h nc) (va_Pc (av.map (tv G.1)) (fun U => jU G mu U)) (va_Qi Q (jB G) (jA G)) (jXC G (fun _ _ => False)) nc (6 * nc) (jA G)
def jTab (X : jX) (hh : List (Nat × Nat × Nat × Nat)) : Prop := match X with
  | (_, (_, _, _, _, c)) => c.exceptionTable.toList = tableOf hh
theorem lvl_drop {ad : Nat → Nat} {Ls : Array Slot} {nL i : Nat} {ls : List Value} {v : Value} (hc : lcat ls i = true)
    (h : lv_has Ls nL ((i, v) :: (lvl ad ls).filter (fun q => !(q.1 == i) && !(q.1 + 1 == i && q.2.category == 2)))) : lv_has Ls nL (lvl ad (ls.set i (.float 0))) := by
  refine ⟨h.1, h.2.1, fun q hq => ?_⟩
  obtain ⟨j, w⟩ := q
  obtain ⟨u, hu, hk, rfl⟩ := lvl_mem.mp hq
  rw [List.getElem?_set] at hu
  by_cases e : i = j
  · subst e
    rw [if_pos rfl] at hu
    split at hu
    · cases hu
      cases hk
    · cases hu
  · rw [if_neg e] at hu
    refine h.2.2 (j, tv ad u) (List.mem_cons_of_mem _ (List.mem_filter.mpr ⟨lvl_mem.mpr ⟨u, hu, hk, rfl⟩, ?_⟩))
    have e2 : ¬ j = i := fun q => e q.symm
    by_cases e1 : j + 1 = i
    · subst e1
      simp only [lcat, hu] at hc
      have hc1 : u.category = 1 := by simpa using hc
      simp [tv_cat, hc1]
    · simp [e1, e2]
section C72
variable {l : Launch} {G : jG} {X : jX} {cc : ByteArray} {nL pc n hg nc : Nat} {ret : Option FieldType} {own : String} {ls st : List Value} {mu : jM} {Q : State → Prop}
theorem jL.of {y : MethodName} {mL pad : Nat} {av : List Value} {Qc : Int32 → jM → Prop} {hh : List (Nat × Nat × Nat × Nat)} (hl : l.stackTraces = false) (hG : jGok G) (hy : plainName y.cls = true) (hlen : (lg_sl (av.map (tv G.1))).length ≤ mL)
    (body : ∀ X : jX, jOk l G X cc mL (some .int) y.cls hg nc → jTab X hh → J l G X (jRx G X nc (va_Qi Qc (jB G) (jA G)) (fun _ _ => False)) mL 0 (jEn av ++ List.replicate pad (.float 0)) [] mu 0) : jL l G y cc mL hg nc hh av mu Qc := by
  refine vx_ofWH (cc := cc) (maxL := mL) (ret := some .int) (hh := hh) hy rfl ?_
  intro p e s m args below meth c s₁ B hml hv
  obtain ⟨rfl, hU⟩ := hv
  rw [lg_entry_eq]
  have hL := lv_entry (av.map (tv G.1)) (n := mL) hlen
  have hts := atoms_spec (ws := jWh y cc mL (some .int) hh) B.pre
  have hok : jOk l G ((p, e, (headSpec (jWh y cc mL (some .int) hh) (jR hg nc)).room, s), (m, (av.map (tv G.1)).toArray, below, meth, c)) cc mL (some .int) y.cls hg nc :=
    ⟨B.exec, B.bytes, hml, findClass_of_methodNamed B.named, fun w hw => hts w (List.mem_cons_of_mem _ hw), hU.2.2, hG, hU.1, B.notSynchronized, B.returns, ⟨Nat.le_refl _, Nat.le_refl _⟩, ⟨Nat.le_refl _, Nat.le_refl _⟩, hl⟩
  have htab : jTab ((p, e, (headSpec (jWh y cc mL (some .int) hh) (jR hg nc)).room, s), (m, (av.map (tv G.1)).toArray, below, meth, c)) hh := vx_table (x := y) B (hts _ List.mem_cons_self)
  exact body ((p, e, (headSpec (jWh y cc mL (some .int) hh) (jR hg nc)).room, s), (m, _, below, meth, c)) hok htab s.heap [] _ hU.2.1 va_S.rf (jEn_has hL)
/-- where a throw of E goes on -/
def jHand (l : Launch) (G : jG) (X : jX) (Q : State → Prop) (cc : ByteArray) (nL pc : Nat) (hh : List (Nat × Nat × Nat × Nat)) (ls : List Value) (E : String) (mu : jM) (n : Nat) : Prop :=
  ∃ (pre : List ExceptionTableEntry) (x : ExceptionTableEntry) (suf : List ExceptionTableEntry), tableOf hh = pre ++ x :: suf ∧ (∀ z ∈ pre, z.catchType ≠ 0 ∧ ∃ nm : String, nm ∈ jEx ∧ E ≠ nm ∧ Cond.classLink RL z.catchType nm ∈ jT) ∧ covers x pc = true ∧ x.catchType ≠ 0 ∧ E ∈ jEx ∧ Cond.classLink RL x.catchType E ∈ jT ∧ Cond.castable E E ∈ jN ∧
    ∃ i len : Nat, ((decode cc x.handlerPc = .ok (.astore i, 2) ∧ len = 2) ∨ (∃ k : Fin 4, (k : Nat) = i ∧ decode cc x.handlerPc = .ok (.astore_n k, 1) ∧ len = 1)) ∧ i < nL ∧ lcat ls i = true ∧ J l G X Q nL (x.handlerPc + len) (ls.set i (.float 0)) [] mu n
theorem jHand.go {hh : List (Nat × Nat × Nat × Nat)} {E : String} {rest : List Value} (h : jOk l G X cc nL ret RL hg nc) (htab : jTab X hh) (hH : jHand l G X Q cc nL pc hh ls E mu n) : match X with
  | ((p, e, R, s), (m, args, below, meth, c)) => ∀ (H : Heap) (locs : List Loc) (Ls : Array Slot) (ce : Cell) (q : Addr), va_P G.2.2.1 vwCl (jW G.1 G.2.1 mu) H → va_S (jA G) s.heap H locs → lv_has Ls nL (lvl G.1 ls) → H[q]? = some ce → ce.vm = .none → s.vm.findClass E = some ce.cls → vx_W p l e R s m args below meth c H locs n (6 * n) Q (F0 m pc Ls rest) q := by
  obtain ⟨⟨p, e, R, s⟩, m, args, below, meth, c⟩ := X
  intro H locs Ls ce q hP hS hL hce hcv hcl
  obtain ⟨pre, x, suf, hsp, hpre, hcov, h0, hE, hlk, hct, i, len, hdec, hi, hlc, hJ⟩ := hH
  have hnc := h.2.2.2.2.2.1.2.2.2.2.2.2
  refine vx_catch (own := RL) (name := E) (E := E) h.2.2.2.1 pre x suf (htab.trans hsp) (fun z hz => ?_) hcov h0 (h.2.2.2.2.1 _ hlk) (va_Nw.use (jN_on (List.mem_filter.mp hct).2) (h.2.2.2.2.2.1.2.1 _ hct)) hce hcv hcl ?_
  · obtain ⟨z0, nm, hnm, hne, hl2⟩ := hpre z hz
    exact Or.inr ⟨z0, nm, h.2.2.2.2.1 _ hl2, hnc E hE nm hnm hne⟩
  · rcases hdec with ⟨hd, rfl⟩ | ⟨k, hk, hd, rfl⟩
    · exact lv_astore h.1 h.2.1 hd hL hi rfl (fun Ls' hL' => hJ H locs Ls' hP hS (lvl_drop hlc hL'))
    · exact lv_astore_n h.1 h.2.1 hd hk hL hi rfl (fun Ls' hL' => hJ H locs Ls' hP hS (lvl_drop hlc hL'))
variable {y : MethodName} {bytes : ByteArray} {mL h' nc' a idx ci k : Nat} {As rest : List Value} {C : String} {T : u_T} {N : Nat} {fl : List (Option Nat)} {Ec : String → jM → Prop} {rt : Option FieldType} {hh : List (Nat × Nat × Nat × Nat)}
theorem J_callHv {Qc : jM → Prop} (h : jOk l G X cc nL ret RL hg nc) (htab : jTab X hh) (d : decode cc pc = .ok (.invokevirtual idx, 3)) (hM : jXv l G y bytes mL h' nc' (.ref a :: As) mu Qc Ec) (hg' : GoodIn jT (wsV RL idx C y (jWs y bytes mL none))) (hyC : y.cls = C) (hC : vwCl[ci]? = some (C, T, N)) (hd : jShp[a]? = some (.inl (ci, fl))) (hnm : jNm y k) (hk : As.length = k) (hgh : h' < hg ∧ mL ≤ 21) (hr : (rest.map fun v => v.category).sum ≤ 8)
    (hst : st = As.reverse ++ .ref a :: rest) (hn : n + nc' ≤ nc) (kx : ∀ E mu', Ec E mu' → jHand l G X Q cc nL pc hh ls E mu' (n + nc')) (kk : ∀ mu', Qc mu' → J l G X Q nL (pc + 3) ls rest mu' (n + nc')) : J l G X Q nL pc ls st mu n := by
  subst hst
  obtain ⟨⟨p, e, R, s⟩, m, args, below, meth, c⟩ := X
  intro H locs Ls hP hS hL
  have hcell : (jW G.1 G.2.1 mu)[a]? = some (G.1 a, .inr (ci, jF G.1 (mu a) 0 fl)) := jW_at hd
  have q2 := h.2.2.2.2.2.2.2.2.2.2.2.1
  have hcap : n + nc' ≤ R.cells ∧ 6 * n + 6 * nc' ≤ R.slots := by omega
  have hroom : (jR h' nc').frames + 1 ≤ R.frames ∧ 8 + (mL + 11) + (jR h' nc').locals ≤ R.locals := by
    have q := h.2.2.2.2.2.2.2.2.2.2.1
    simp only [jR]
    omega
  have hlocks := h.2.2.2.2.2.2.2.2.1
  rw [jrev]
  refine vx_callv (vx_runV (As := As.map (tv G.1)) (rest := rest.map (tv G.1)) (C := C) (b := G.1 a) ⟨h.1, h.2.1, h.2.2.1, h.2.2.2.1, h.2.2.2.2.1⟩ hM (cwV k h.2.2.2.2.1 hg' rfl rfl rfl ⟨hyC, hnm⟩ hroom) ⟨jBlind, va_recv h.2.2.2.2.2.1.1 hP hC hcell, fun U hU hW => ⟨rfl, jU.call h.2.2.2.2.2.2.2.1 h.2.2.2.2.2.1 hP hS hU hW⟩⟩ rfl (by rw [List.length_map]; exact hk) hL.1 rfl (lv_room (by rw [jcat]; exact hr)) d hcap) hS (fun q _ hq => hq) (fun q hq => hq) (fun q _ hq => hq) (fun E ce q9 u t H1 locs1 e1 _ hpx hB _ _ hS1 hce hcv hcl => ?_) (fun mu' t H1 locs1 e1 _ hq hB _ _ hS1 => ?_)
  · obtain ⟨rfl, hB⟩ := hB
    have := jHand.go (rest := rest.map (tv G.1)) h htab (kx _ _ hpx) H1 locs1 Ls ce q9 (by rw [← e1]; exact hB) hS1 hL hce hcv hcl
    rw [Nat.mul_add] at this
    exact this
  · have := kk mu' hq H1 locs1 Ls (by rw [← e1]; exact hB) hS1 hL
    rw [Nat.mul_add] at this
    exact this
theorem J_callHi {Qc : Int32 → jM → Prop} (h : jOk l G X cc nL ret RL hg nc) (htab : jTab X hh) (d : decode cc pc = .ok (.invokevirtual idx, 3)) (hM : jXi l G y bytes mL h' nc' rt (.ref a :: As) mu Qc Ec) (hg' : GoodIn jT (wsV RL idx C y (jWs y bytes mL rt))) (hyC : y.cls = C) (hC : vwCl[ci]? = some (C, T, N)) (hd : jShp[a]? = some (.inl (ci, fl))) (hnm : jNm y k) (hk : As.length = k) (hgh : h' < hg ∧ mL ≤ 21) (hr : (rest.map fun v => v.category).sum ≤ 8)
    (hst : st = As.reverse ++ .ref a :: rest) (hn : n + nc' ≤ nc) (kx : ∀ E mu', Ec E mu' → jHand l G X Q cc nL pc hh ls E mu' (n + nc')) (kk : ∀ v mu', Qc v mu' → J l G X Q nL (pc + 3) ls (.int v :: rest) mu' (n + nc')) : J l G X Q nL pc ls st mu n := by
  subst hst
  obtain ⟨⟨p, e, R, s⟩, m, args, below, meth, c⟩ := X
  intro H locs Ls hP hS hL
  have hcell : (jW G.1 G.2.1 mu)[a]? = some (G.1 a, .inr (ci, jF G.1 (mu a) 0 fl)) := jW_at hd
  have q2 := h.2.2.2.2.2.2.2.2.2.2.2.1
  have hcap : n + nc' ≤ R.cells ∧ 6 * n + 6 * nc' ≤ R.slots := by omega
  have hroom : (jR h' nc').frames + 1 ≤ R.frames ∧ 8 + (mL + 11) + (jR h' nc').locals ≤ R.locals := by
    have q := h.2.2.2.2.2.2.2.2.2.2.1
    simp only [jR]
    omega
  have hlocks := h.2.2.2.2.2.2.2.2.1
  rw [jrev]
  refine vx_calli (vx_runV (As := As.map (tv G.1)) (rest := rest.map (tv G.1)) (C := C) (b := G.1 a) ⟨h.1, h.2.1, h.2.2.1, h.2.2.2.1, h.2.2.2.2.1⟩ hM (cwV k h.2.2.2.2.1 hg' rfl rfl rfl ⟨hyC, hnm⟩ hroom) ⟨jBlind, va_recv h.2.2.2.2.2.1.1 hP hC hcell, fun U hU hW => ⟨rfl, jU.call h.2.2.2.2.2.2.2.1 h.2.2.2.2.2.1 hP hS hU hW⟩⟩ rfl (by rw [List.length_map]; exact hk) hL.1 rfl (lv_room (by rw [jcat]; exact hr)) d hcap) hS (fun q _ hq => hq) (fun q hq => hq) (fun q _ hq => hq) (fun E ce q9 u t H1 locs1 e1 _ hpx hB _ _ hS1 hce hcv hcl => ?_) (fun v mu' t H1 locs1 e1 _ hq hB _ _ hS1 => ?_)
  · obtain ⟨rfl, hB⟩ := hB
    have := jHand.go (rest := rest.map (tv G.1)) h htab (kx _ _ hpx) H1 locs1 Ls ce q9 (by rw [← e1]; exact hB) hS1 hL hce hcv hcl
    rw [Nat.mul_add] at this
    exact this
  · have := kk v mu' hq H1 locs1 Ls (by rw [← e1]; exact hB) hS1 hL
    rw [Nat.mul_add] at this
    exact this
/-- the words of such a call, among the tables' -/
theorem jgL {mL : Nat} {ret : Option FieldType} (w1 : Cond.methodLink own idx y ∈ jT) (w2 : Cond.static y ∈ jT) (w3 : Cond.initialized y.cls ∈ jT) (w5 : Cond.codeWith y bytes mL ret hh ∈ jT) : GoodIn jT (va_wsS own idx y (jWh y bytes mL ret hh)) := fun w hw => by
  unfold va_wsS at hw
  rcases List.mem_append.mp hw with hw | hw
  · simp only [List.mem_cons, List.not_mem_nil, or_false] at hw
    rcases hw with rfl | rfl | rfl
    · exact jT_goodIn _ w1
    · exact jT_goodIn _ w2
    · exact jT_goodIn _ w3
  · rcases List.mem_cons.mp hw with rfl | hw
    · exact jT_goodIn _ w5
    · exact jT_goodIn _ hw
theorem J_callL {Qc : Int32 → jM → Prop} (h : jOk l G X cc nL ret own hg nc) (d : decode cc pc = .ok (.invokestatic idx, 3)) (hM : jL l G y bytes mL h' nc' hh As mu Qc) (hg' : GoodIn jT (va_wsS own idx y (jWh y bytes mL (some .int) hh))) (hnm : jNm y k) (hk : As.length = k) (hgh : h' < hg ∧ mL ≤ 21) (hr : (rest.map fun v => v.category).sum ≤ 8)
    (hst : st = As.reverse ++ rest) (hn : n + nc' ≤ nc) (kk : ∀ v mu', Qc v mu' → J l G X Q nL (pc + 3) ls (.int v :: rest) mu' (n + nc')) : J l G X Q nL pc ls st mu n := by
  subst hst
  obtain ⟨⟨p, e, R, s⟩, m, args, below, meth, c⟩ := X
  intro H locs Ls hP hS hL
  have q2 := h.2.2.2.2.2.2.2.2.2.2.2.1
  have hcap : n + nc' ≤ R.cells ∧ 6 * n + 6 * nc' ≤ R.slots := by omega
  have hroom : (jR h' nc').frames + 1 ≤ R.frames ∧ 8 + (mL + 11) + (jR h' nc').locals ≤ R.locals := by
    have q := h.2.2.2.2.2.2.2.2.2.2.1
    simp only [jR]
    omega
  rw [jrev]
  refine vx_calli (vx_runSX (hh := hh) (As := As.map (tv G.1)) (rest := rest.map (tv G.1)) ⟨h.1, h.2.1, h.2.2.1, h.2.2.2.1, h.2.2.2.2.1⟩ hM (vx_cwSW k h.2.2.2.2.1 hg' rfl rfl rfl hnm hroom) ⟨jBlind, fun U hU hW => ⟨rfl, jU.call h.2.2.2.2.2.2.2.1 h.2.2.2.2.2.1 hP hS hU hW⟩⟩ rfl (by rw [List.length_map]; exact hk) hL.1 rfl (lv_room (by rw [jcat]; exact hr)) d hcap) hS (fun q _ hq => hq) (fun q hq => hq) (fun q _ hq => hq) (fun E ce q9 u t H1 locs1 e1 _ hpx hB _ _ hS1 hce hcv hcl => hpx.elim) (fun v mu' t H1 locs1 e1 _ hq hB _ _ hS1 => ?_)
  have := kk v mu' hq H1 locs1 Ls (by rw [← e1]; exact hB) hS1 hL
  rw [Nat.mul_add] at this
  exact this
end C72
