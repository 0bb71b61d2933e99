/-! ===== making the cells ===== -/
/-- the classes' numbers, the array classes, the first new address -/
abbrev kG : Type := va_G × (Nat → ClassId) × Nat
def kB (g : kG) : Nat → Prop := fun q => g.2.2 ≤ q
def kS (g : kG) (U : State) : Prop := va_K g.1 vwCl (jTy g.2.1) U ∧ (∀ w ∈ jN, va_Nw w U) ∧ (Cond.arrayOver (.array .int)).before #[] U = true
theorem kS.call {g : kG} {s U : State} (h : kS g s) (hW : s.WarmedH U.vm) : kS g U := ⟨h.1.moved hW.alike, fun w hw => jN_warm (List.mem_filter.mp hw).2 hW (h.2.1 w hw), arrayOver_alikeB hW.alike h.2.2⟩
def kU (g : kG) (ws : va_W) (U : State) : Prop := g.2.2 ≤ U.heap.size ∧ va_P g.1 vwCl ws U.heap ∧ va_D (kB g) ws ∧ kS g U
def kR (h nc ns : Nat) : Room := { frames := h, cells := nc, slots := ns, locals := 40 * h }
def kC (l : Launch) (g : kG) (y : MethodName) (cc : ByteArray) (mL h nc ns : Nat) (av : List Value) (ws : va_W) (ws' : (Nat → Nat) → va_W) : Prop :=
  Met l y (jWs y cc mL none) (kR h nc ns) (va_Pc av (fun U => kU g ws U)) (va_Qv (fun _ : Nat → Nat => True) (fun ad t => va_P g.1 vwCl (ws' ad) t.heap ∧ va_D (kB g) (ws' ad)) (kB g)) nc ns (kB g)
def kOk (l : Launch) (g : kG) (X : jX) (cc : ByteArray) (nL : Nat) (own : String) (hg nc ns : Nat) : Prop := match X with
  | ((p, _, R, s), (m, args, _, meth, c)) => p.tables.exec = Jvm.exec ∧ c.code = cc ∧ c.maxLocals = nL ∧ s.vm.findClass own = some m.cls ∧ (∀ w ∈ jT, w.before args s = true) ∧ kS g s ∧ g.2.2 ≤ s.heap.size ∧ meth.locks = false ∧ (hg ≤ R.frames ∧ 40 * hg ≤ R.locals) ∧ (nc ≤ R.cells ∧ ns ≤ R.slots) ∧ l.stackTraces = l.stackTraces
def kIn (X : jX) : Prop := match X with
  | (_, (_, _, _, meth, _)) => meth.name = "<init>" ∧ meth.sig.returnType = none
def KJ (l : Launch) (g : kG) (X : jX) (Q : State → Prop) (nL pc : Nat) (lv : List (Nat × Value)) (st : List Value) (ws : va_W) (n z : Nat) : Prop := match X with
  | ((p, e, R, s), (m, args, below, meth, c)) => ∀ (H : Heap) (locs : List Loc) (Ls : Array Slot), va_P g.1 vwCl ws H → va_D (kB g) ws → va_S (kB g) s.heap H locs → lv_has Ls nL lv → W p l e R s m args below meth c H locs n z Q (F0 m pc Ls st)
theorem kP_cons {D : va_G} {cl : List vw_C} {ws : va_W} {H : Heap} {x : Nat × va_E} (hx : va_at D cl x H) (h : va_P D cl ws H) : va_P D cl (x :: ws) H := fun k q hq => by
  cases k with
  | zero =>
    cases hq
    exact hx
  | succ k => exact h k q hq
theorem kP_app {D : va_G} {cl : List vw_C} {ws : va_W} {H : Heap} : ∀ (L : va_W), (∀ x ∈ L, va_at D cl x H) → va_P D cl ws H → va_P D cl (L ++ ws) H
  | [], _, h => h
  | x :: L, hx, h => kP_cons (hx x List.mem_cons_self) (kP_app L (fun y hy => hx y (List.mem_cons_of_mem _ hy)) h)
theorem kD_cons {A : Nat → Prop} {ws : va_W} {x : Nat × va_E} (hD : va_D A ws) (hne : ∀ q ∈ ws, q.1 ≠ x.1) (hA : A x.1) : va_D A (x :: ws) := by
  refine ⟨fun i j p q hi hj e => ?_, fun k q hq => ?_⟩
  · cases i with
    | zero =>
      cases hi
      cases j with
      | zero => rfl
      | succ j => exact absurd e.symm (hne q (List.mem_of_getElem? hj))
    | succ i =>
      cases j with
      | zero =>
        cases hj
        exact absurd e (hne p (List.mem_of_getElem? hi))
      | succ j => exact congrArg (· + 1) (hD.1 i j p q hi hj e)
  · cases k with
    | zero =>
      cases hq
      exact hA
    | succ k => exact hD.2 k q hq
theorem kD_app {A : Nat → Prop} {ws : va_W} {e : va_E} (hD : va_D A ws) : ∀ (L : List Nat), L.Nodup → (∀ a ∈ L, A a ∧ ∀ q ∈ ws, q.1 ≠ a) → va_D A (L.map (fun a => (a, e)) ++ ws)
  | [], _, _ => hD
  | a :: L, hn, h => by
    have hn2 := List.nodup_cons.mp hn
    refine kD_cons (x := (a, e)) (kD_app hD L hn2.2 (fun b hb => h b (List.mem_cons_of_mem _ hb))) (fun q hq => ?_) (h a List.mem_cons_self).1
    rcases List.mem_append.mp hq with hq | hq
    · obtain ⟨b, hb, rfl⟩ := List.mem_map.mp hq
      intro z
      have z : b = a := z
      exact hn2.1 (z ▸ hb)
    · exact (h a List.mem_cons_self).2 q hq
theorem kP_lt {D : va_G} {cl : List vw_C} {ws : va_W} {H : Heap} (h : va_P D cl ws H) : ∀ q ∈ ws, q.1 < H.size := fun q hq => by
  obtain ⟨k, hk⟩ := List.getElem?_of_mem hq
  exact (h k q hk).lt
section C79
variable {l : Launch} {g : kG} {X : jX} {Q : State → Prop} {cc : ByteArray} {nL pc n z hg nc ns : Nat} {own : String} {lv : List (Nat × Value)} {st : List Value} {ws : va_W}
theorem KJ_aload_n {k : Fin 4} {i j x : Nat} (h : kOk l g X cc nL own hg nc ns) (d : decode cc pc = .ok (.aload_n k, 1)) (hi : (k : Nat) = i) (hv : lv[j]? = some (i, .ref x)) (kk : KJ l g X Q nL (pc + 1) lv (.ref x :: st) ws n z) : KJ l g X Q nL pc lv st ws n z := by
  obtain ⟨⟨p, e, R, s⟩, m, args, below, meth, c⟩ := X
  intro H locs Ls hP hD hS hL
  exact lv_aload_n h.1 h.2.1 d hi (lv_at hL j hv) (kk H locs Ls hP hD hS hL)
theorem KJ_iconst {k : Int} {v : Int32} (h : kOk l g X cc nL own hg nc ns) (d : decode cc pc = .ok (.iconst k, 1)) (hv : Int32.ofInt k = v) (kk : KJ l g X Q nL (pc + 1) lv (.int v :: st) ws n z) : KJ l g X Q nL pc lv st ws n z := by
  obtain ⟨⟨p, e, R, s⟩, m, args, below, meth, c⟩ := X
  intro H locs Ls hP hD hS hL
  exact lv_iconst h.1 h.2.1 d hv (kk H locs Ls hP hD hS hL)
theorem KJ_bipush {k : Int} {v : Int32} (h : kOk l g X cc nL own hg nc ns) (d : decode cc pc = .ok (.bipush k, 2)) (hv : (Int8.ofInt k).toInt32 = v) (kk : KJ l g X Q nL (pc + 2) lv (.int v :: st) ws n z) : KJ l g X Q nL pc lv st ws n z := by
  obtain ⟨⟨p, e, R, s⟩, m, args, below, meth, c⟩ := X
  intro H locs Ls hP hD hS hL
  exact lv_bipush h.1 h.2.1 d hv (kk H locs Ls hP hD hS hL)
theorem KJ_sipush {k : Int} {v : Int32} (h : kOk l g X cc nL own hg nc ns) (d : decode cc pc = .ok (.sipush k, 3)) (hv : (Int16.ofInt k).toInt32 = v) (kk : KJ l g X Q nL (pc + 3) lv (.int v :: st) ws n z) : KJ l g X Q nL pc lv st ws n z := by
  obtain ⟨⟨p, e, R, s⟩, m, args, below, meth, c⟩ := X
  intro H locs Ls hP hD hS hL
  exact lv_sipush h.1 h.2.1 d hv (kk H locs Ls hP hD hS hL)
theorem KJ_dup {v : Value} (h : kOk l g X cc nL own hg nc ns) (d : decode cc pc = .ok (.dup, 1)) (hv : v.category = 1) (kk : KJ l g X Q nL (pc + 1) lv (v :: v :: st) ws n z) : KJ l g X Q nL pc lv (v :: st) ws n z := by
  obtain ⟨⟨p, e, R, s⟩, m, args, below, meth, c⟩ := X
  intro H locs Ls hP hD hS hL
  exact lv_dup h.1 h.2.1 d hv (kk H locs Ls hP hD hS hL)
theorem KJ_objInit {idx a : Nat} (h : kOk l g X cc nL own hg nc ns) (d : decode cc pc = .ok (.invokespecial idx, 3)) (w1 : Cond.methodLink own idx Lib.objectInit ∈ jT) (w2 : Cond.instanceMethod Lib.objectInit ∈ jT) (w3 : Cond.code Lib.objectInit ⟨#[0xb1]⟩ 1 none ∈ jT) (hh : 1 ≤ hg) (hr : (st.map fun v => v.category).sum ≤ 8)
    (kk : KJ l g X Q nL (pc + 3) lv st ws n z) : KJ l g X Q nL pc lv (.ref a :: st) ws n z := by
  obtain ⟨⟨p, e, R, s⟩, m, args, below, meth, c⟩ := X
  intro H locs Ls hP hD hS hL
  have q := h.2.2.2.2.2.2.2.2.1
  have hr' : 2 * (F0 m pc Ls (.ref a :: st)).monitorRoom + (st.map fun v => v.category).sum ≤ 8 := lv_room hr
  exact W.objInit h.1 h.2.1 h.2.2.2.1 (h.2.2.2.2.1 _ w1) (h.2.2.2.2.1 _ w2) (h.2.2.2.2.1 _ w3) rfl (by rw [h.2.2.1]; exact hL.1) rfl d (by omega) (by omega) (kk H locs Ls hP hD hS hL)
theorem KJ_newa {atype : ArrayType} {ty : FieldType} {ti N' : Nat} {v : Int32} {a0 : vp_A} (h : kOk l g X cc nL own hg nc ns) (d : decode cc pc = .ok (.newarray atype, 2)) (w : Cond.arrayClass (newarray.typeOf atype) ∈ jT) (hty : newarray.typeOf atype = ty) (hti : (jTy g.2.1)[ti]? = some (g.2.1 ti, ty)) (hra : ∀ (s : State) (c : ClassId), va_RA s c ty → s.vm.findClass ("[" ++ ty.toString) = some c) (ha : ∀ cA : ClassId, vp_cell cA a0 = arrV cA N' (fun _ => defaultValue ty)) (hv : ¬ v < 0) (hN : v.toNatClampNeg = N') (hb : N' * componentBytes ty ≤ 536870912) (hc : n + 1 ≤ nc) (hz : z + N' ≤ ns)
    (kk : ∀ q, KJ l g X Q nL (pc + 2) lv (.ref q :: st) ((q, .inl (g.2.1 ti, a0)) :: ws) (n + 1) (z + N')) : KJ l g X Q nL pc lv (.int v :: st) ws n z := by
  subst hty
  obtain ⟨⟨p, e, R, s⟩, m, args, below, meth, c⟩ := X
  intro H locs Ls hP hD hS hL
  have q := h.2.2.2.2.2.2.2.2.2.1
  refine va_newaK h.1 h.2.1 (h.2.2.2.2.1 _ w) rfl d rfl hv hN hb (by omega) (by omega) rfl fun H1 cA e1 z1 o1 hAr hNm => ?_
  have hf := hra _ _ (h.2.2.2.2.2.1.1.2 ti _ hti).2
  rw [hNm] at hf
  cases hf
  have hB : g.2.2 ≤ H.size := Nat.le_trans h.2.2.2.2.2.2.1 hS.1
  refine kk H.size H1 locs Ls (kP_cons ?_ (hP.kept (fun k x hx => o1 x.1 ((hP k x hx).lt)))) (kD_cons hD (fun q hq z => ?_) hB) ⟨Nat.le_trans hS.1 (by omega), fun x h1 h2 => (o1 x (Nat.lt_of_lt_of_le h1 hS.1)).trans (hS.2.1 x h1 h2), hS.2.2⟩ hL
  · show H1[H.size]? = some (vp_cell _ _)
    rw [ha]
    exact e1
  · have := kP_lt hP q hq
    have z : q.1 = H.size := z
    omega
theorem KJ_new {C : String} {T : u_T} {N ci idx : Nat} {ty : Nat → FieldType} {fs : List Value} (h : kOk l g X cc nL own hg nc ns) (d : decode cc pc = .ok (.new idx, 3)) (hC : jC ci C T N) (hty : ∀ k, k < N → parseFieldDescriptor (T k).2.2.1 = some (ty k)) (w1 : Cond.classLink own idx C ∈ jT) (w2 : Cond.instantiable C N ∈ jT) (w3 : Cond.initialized C ∈ jT) (hfs : ∀ j, j < N → defaultValue (ty j) = vp_V fs j) (hc : n + 1 ≤ nc) (hz : z + N ≤ ns)
    (kk : ∀ q, KJ l g X Q nL (pc + 3) lv (.ref q :: st) ((q, .inr (ci, fs)) :: ws) (n + 1) (z + N)) : KJ l g X Q nL pc lv st ws n z := by
  obtain ⟨⟨p, e, R, s⟩, m, args, below, meth, c⟩ := X
  intro H locs Ls hP hD hS hL
  have q := h.2.2.2.2.2.2.2.2.2.1
  have hB : ∀ q, s.heap.size ≤ q → kB g q := fun q hq => Nat.le_trans h.2.2.2.2.2.2.1 hq
  refine va_new h.1 h.2.1 h.2.2.2.2.1 hC.2 ty hty h.2.2.2.1 (h.2.2.2.2.1 _ w1) (h.2.2.2.2.1 _ w2) (h.2.2.2.2.1 _ w3) h.2.2.2.2.2.1.1 hP hD hS hB hC.1 hfs (by omega) (by omega) d (fun q H1 hP1 hD1 hS1 => ?_)
  refine kk q H1 locs Ls (kP_cons (hP1 ws.length _ ?_) (fun k x hx => hP1 k x ?_)) (kD_cons ⟨fun i j p q hi hj => hD1.1 i j p q ?_ ?_, fun k x hx => hD1.2 k x ?_⟩ (fun y hy e => ?_) (hD1.2 ws.length _ ?_)) hS1 hL
  · rw [List.getElem?_append_right (Nat.le_refl _), Nat.sub_self]; rfl
  · rw [List.getElem?_append_left (List.getElem?_eq_some_iff.mp hx).1]; exact hx
  · rw [List.getElem?_append_left (List.getElem?_eq_some_iff.mp hi).1]; exact hi
  · rw [List.getElem?_append_left (List.getElem?_eq_some_iff.mp hj).1]; exact hj
  · rw [List.getElem?_append_left (List.getElem?_eq_some_iff.mp hx).1]; exact hx
  · obtain ⟨k, hk⟩ := List.getElem?_of_mem hy
    have hkl := (List.getElem?_eq_some_iff.mp hk).1
    have := hD1.1 k ws.length y (q, .inr (ci, fs)) (by rw [List.getElem?_append_left hkl]; exact hk) (by rw [List.getElem?_append_right (Nat.le_refl _), Nat.sub_self]; rfl) e
    omega
  · rw [List.getElem?_append_right (Nat.le_refl _), Nat.sub_self]; rfl
theorem KJ_putF {C : String} {T : u_T} {N ci idx q0 k a : Nat} {ty0 : Nat → FieldType} {fs : List Value} {v : Value} (h : kOk l g X cc nL own hg nc ns) (hin : kIn X) (d : decode cc pc = .ok (.putfield idx, 3)) (hC : jC ci C T N) (hty : ∀ k, k < N → parseFieldDescriptor (T k).2.2.1 = some (ty0 k)) (hnm : ∀ a, a < N → ∀ b, b < N → a ≠ b → (T a).2.1 ≠ (T b).2.1) (he : ws[q0]? = some (a, .inr (ci, fs))) (hk : k < N) (w : Cond.fieldLink own idx (T k).1 (T k).2.1 (T k).2.2.1 ∈ jT) (hf : (T k).2.2.2 = true) (ho : (T k).1 = own) (hn : narrow (ty0 k) v = v) (hfit : fits (ty0 k) v = true) (hl : k < fs.length)
    (kk : KJ l g X Q nL (pc + 3) lv st (ws.set q0 (a, .inr (ci, fs.set k v))) n z) : KJ l g X Q nL pc lv (v :: .ref a :: st) ws n z := by
  obtain ⟨⟨p, e, R, s⟩, m, args, below, meth, c⟩ := X
  intro H locs Ls hP hD hS hL
  exact va_putF h.1 h.2.1 h.2.2.2.2.1 hC.2 ty0 hty hnm h.2.2.2.1 h.2.2.2.2.2.1.1 hP hD hS q0 he hC.1 k hk (h.2.2.2.2.1 _ w) (fun _ h9 => h9) hf hin.1 ho (hty k hk) hn hfit hl d (fun H1 locs1 hP1 hD1 hS1 => kk H1 locs1 Ls hP1 hD1 hS1 hL)
theorem KJ_put {C : String} {T : u_T} {N ci idx q0 k a : Nat} {ty0 : Nat → FieldType} {fs : List Value} {v : Value} (h : kOk l g X cc nL own hg nc ns) (d : decode cc pc = .ok (.putfield idx, 3)) (hC : jC ci C T N) (hty : ∀ k, k < N → parseFieldDescriptor (T k).2.2.1 = some (ty0 k)) (hnm : ∀ a, a < N → ∀ b, b < N → a ≠ b → (T a).2.1 ≠ (T b).2.1) (he : ws[q0]? = some (a, .inr (ci, fs))) (hk : k < N) (w : Cond.fieldLink own idx (T k).1 (T k).2.1 (T k).2.2.1 ∈ jT) (hf : (T k).2.2.2 = false) (hn : narrow (ty0 k) v = v) (hfit : fits (ty0 k) v = true) (hl : k < fs.length)
    (kk : KJ l g X Q nL (pc + 3) lv st (ws.set q0 (a, .inr (ci, fs.set k v))) n z) : KJ l g X Q nL pc lv (v :: .ref a :: st) ws n z := by
  obtain ⟨⟨p, e, R, s⟩, m, args, below, meth, c⟩ := X
  intro H locs Ls hP hD hS hL
  exact va_put h.1 h.2.1 h.2.2.2.2.1 hC.2 ty0 hty hnm h.2.2.2.1 h.2.2.2.2.2.1.1 hP hD hS q0 he hC.1 k hk (h.2.2.2.2.1 _ w) (fun _ h9 => h9) hf (hty k hk) hn hfit hl d (fun H1 locs1 hP1 hD1 hS1 => kk H1 locs1 Ls hP1 hD1 hS1 hL)
theorem KJ_get {C : String} {T : u_T} {N ci idx q0 k a : Nat} {fs : List Value} {v : Value} (h : kOk l g X cc nL own hg nc ns) (d : decode cc pc = .ok (.getfield idx, 3)) (hC : jC ci C T N) (he : ws[q0]? = some (a, .inr (ci, fs))) (hk : k < N) (w : Cond.fieldLink own idx (T k).1 (T k).2.1 (T k).2.2.1 ∈ jT) (hv : fs[k]? = some v)
    (kk : KJ l g X Q nL (pc + 3) lv (v :: st) ws n z) : KJ l g X Q nL pc lv (.ref a :: st) ws n z := by
  obtain ⟨⟨p, e, R, s⟩, m, args, below, meth, c⟩ := X
  intro H locs Ls hP hD hS hL
  exact va_get h.1 h.2.1 h.2.2.2.2.1 hC.2 h.2.2.2.1 h.2.2.2.2.2.1.1 hP q0 he hC.1 k hk (h.2.2.2.2.1 _ w) (fun _ h9 => h9) hv d (kk H locs Ls hP hD hS hL)
theorem kBlind {av : List Value} : FrameBlind (va_Pc av (fun U => kU g ws U)) := fun a U g mk q => ⟨q.1, q.2.1, q.2.2.1, q.2.2.2.1, q.2.2.2.2.call (State.WarmedH.refl U)⟩
variable {y : MethodName} {bytes : ByteArray} {mL h' nc' ns' idx k b : Nat} {As rest : List Value} {ws' : (Nat → Nat) → va_W}
theorem KJ_initN {host : String} (h : kOk l g X cc nL own hg nc ns) (d : decode cc pc = .ok (.invokespecial idx, 3)) (hM : kC l g y bytes mL h' nc' ns' (.ref b :: As) ws ws') (hw : Cond.methodLinkNest own idx y host ∈ jN) (hw2 : Cond.instanceMethod y ∈ jT) (hw3 : Cond.initialized y.cls ∈ jT) (hw5 : Cond.code y bytes mL none ∈ jT) (hy : y.name = "<init>") (hnm : jNm y k) (hk : As.length = k) (hh : h' < hg ∧ mL ≤ 21) (hr : (rest.map fun v => v.category).sum ≤ 8)
    (hst : st = As.reverse ++ .ref b :: rest) (hc : n + nc' ≤ nc) (hz : z + ns' ≤ ns) (kk : ∀ ad, KJ l g X Q nL (pc + 3) lv rest (ws' ad) (n + nc') (z + ns')) : KJ l g X Q nL pc lv st ws n z := by
  subst hst
  obtain ⟨⟨p, e, R, s⟩, m, args, below, meth, c⟩ := X
  intro H locs Ls hP hD hS hL
  have q := h.2.2.2.2.2.2.2.2.2.1
  have q1 := h.2.2.2.2.2.2.2.2.1
  have hroom : (kR h' nc' ns').frames + 1 ≤ R.frames ∧ 8 + (mL + 11) + (kR h' nc' ns').locals ≤ R.locals := by
    simp only [kR]
    omega
  have hB := h.2.2.2.2.2.2.1
  refine va_callv (va_runIN (As := As) (rest := rest) ⟨h.1, h.2.1, h.2.2.1, h.2.2.2.1, h.2.2.2.2.1⟩ hM ⟨va_cnB k h.2.2.2.2.1 (jWs_good hw5) rfl rfl rfl (h.2.2.2.2.2.1.2.1 _ hw) (h.2.2.2.2.1 _ hw3) hnm hroom, hy, h.2.2.2.2.1 _ hw2⟩ ⟨kBlind, fun U hU hW => ⟨rfl, by rw [hU]; exact Nat.le_trans hB hS.1, by rw [hU]; exact hP, hD, h.2.2.2.2.2.1.call hW⟩⟩ rfl hk hL.1 rfl (lv_room hr) d (by omega)) hS (fun q _ hq => hq) (fun q hq => hq) (fun ad t H1 locs1 ht _ _ hB1 _ _ hS1 => ?_)
  exact kk ad H1 locs1 Ls (by rw [← ht]; exact hB1.1) hB1.2 hS1 hL
theorem KJ_init (h : kOk l g X cc nL own hg nc ns) (d : decode cc pc = .ok (.invokespecial idx, 3)) (hM : kC l g y bytes mL h' nc' ns' (.ref b :: As) ws ws') (hw : Cond.methodLink own idx y ∈ jT) (hw2 : Cond.instanceMethod y ∈ jT) (hw3 : Cond.initialized y.cls ∈ jT) (hw5 : Cond.code y bytes mL none ∈ jT) (hy : y.name = "<init>") (hnm : jNm y k) (hk : As.length = k) (hh : h' < hg ∧ mL ≤ 21) (hr : (rest.map fun v => v.category).sum ≤ 8)
    (hst : st = As.reverse ++ .ref b :: rest) (hc : n + nc' ≤ nc) (hz : z + ns' ≤ ns) (kk : ∀ ad, KJ l g X Q nL (pc + 3) lv rest (ws' ad) (n + nc') (z + ns')) : KJ l g X Q nL pc lv st ws n z := by
  subst hst
  obtain ⟨⟨p, e, R, s⟩, m, args, below, meth, c⟩ := X
  intro H locs Ls hP hD hS hL
  have q := h.2.2.2.2.2.2.2.2.2.1
  have q1 := h.2.2.2.2.2.2.2.2.1
  have hroom : (kR h' nc' ns').frames + 1 ≤ R.frames ∧ 8 + (mL + 11) + (kR h' nc' ns').locals ≤ R.locals := by
    simp only [kR]
    omega
  have hB := h.2.2.2.2.2.2.1
  refine va_callv (va_runI (As := As) (rest := rest) ⟨h.1, h.2.1, h.2.2.1, h.2.2.2.1, h.2.2.2.2.1⟩ hM (cwI k h.2.2.2.2.1 (jWs_good hw5) rfl rfl rfl (h.2.2.2.2.1 _ hw3) (h.2.2.2.2.1 _ hw) (h.2.2.2.2.1 _ hw2) hy hnm hroom) ⟨kBlind, fun U hU hW => ⟨rfl, by rw [hU]; exact Nat.le_trans hB hS.1, by rw [hU]; exact hP, hD, h.2.2.2.2.2.1.call hW⟩⟩ rfl hk hL.1 rfl (lv_room hr) d (by omega)) hS (fun q _ hq => hq) (fun q hq => hq) (fun ad t H1 locs1 ht _ _ hB1 _ _ hS1 => ?_)
  exact kk ad H1 locs1 Ls (by rw [← ht]; exact hB1.1) hB1.2 hS1 hL
/-- a constructor's end -/
def kRv (g : kG) (X : jX) (nc ns : Nat) (ws' : (Nat → Nat) → va_W) : State → Prop := match X with
  | ((_, _, _, s), (_, args, below, _, _)) => MQ below (va_Qv (fun _ : Nat → Nat => True) (fun ad t => va_P g.1 vwCl (ws' ad) t.heap ∧ va_D (kB g) (ws' ad)) (kB g)) args s nc ns (kB g)
theorem KJ_vret {ad : Nat → Nat} (h : kOk l g X cc nL own hg nc ns) (hin : kIn X) (d : decode cc pc = .ok (.return_, 1)) (he : ws = ws' ad) (hn : n = nc) (hz : z = ns) : KJ l g X (kRv g X nc ns ws') nL pc lv [] ws n z := by
  subst he
  subst hn
  subst hz
  obtain ⟨⟨p, e, R, s⟩, m, args, below, meth, c⟩ := X
  intro H locs Ls hP hD hS hL
  have hlocks := h.2.2.2.2.2.2.2.1
  exact W.vret h.1 h.2.1 hin.2 (fun t ht hW => ⟨⟨ad, rfl, trivial, by rw [ht]; exact hP, hD⟩, hS.F ht⟩) hS.2.2 d
theorem kC.of {av : List Value} (hy : plainName y.cls = true) (hyn : y.name = "<init>") (hlen : (lg_sl av).length ≤ mL)
    (body : ∀ X : jX, kOk l g X bytes mL y.cls hg nc ns → kIn X → KJ l g X (kRv g X nc ns ws') mL 0 (lv_args 0 av) [] ws 0 0) : kC l g y bytes mL hg nc ns av ws ws' := by
  refine Met.ofW (cc := bytes) (maxL := mL) (ret := none) hy rfl ?_
  intro p e s m args below meth c s₁ B hml hv
  obtain ⟨rfl, hU⟩ := hv
  rw [lg_entry_eq]
  have hL := lv_entry av (n := mL) hlen
  have hts := atoms_spec (ws := jWs y bytes mL none) B.pre
  exact body ((p, e, (headSpec (jWs y bytes mL none) (kR hg nc ns)).room, s), (m, _, below, meth, c)) ⟨B.exec, B.bytes, hml, findClass_of_methodNamed B.named, fun w hw => hts w (List.mem_cons_of_mem _ hw), hU.2.2.2, hU.1, B.notSynchronized, ⟨Nat.le_refl _, Nat.le_refl _⟩, ⟨Nat.le_refl _, Nat.le_refl _⟩, rfl⟩ ⟨(name_of_methodNamed B.named B.method).1.trans hyn, B.returns⟩ s.heap [] _ hU.2.1 hU.2.2.1 va_S.rf hL
end C79
