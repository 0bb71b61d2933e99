/-! ===== J: the machine at a place of a method, over the fixed cells ===== -/
/-- where the cells lie, the array classes, the classes' numbers, the first new address -/
abbrev jG : Type := (Nat → Nat) × (Nat → ClassId) × va_G × Nat
abbrev jX : Type := (Program × Env × Room × State) × (MethodId × Array Value × List Frame × Method × Code)
def jA (G : jG) : Nat → Prop := fun q => G.2.2.2 ≤ q
def jTy (cA : Nat → ClassId) : List (ClassId × FieldType) := [(cA 0, .int), (cA 1, .boolean), (cA 2, .long), (cA 3, .array .int)]
def jNest (w : Cond) : Bool := match w with
  | .fieldLinkNest .. => true
  | .methodLinkNest .. => true
  | .castable .. => true
  | .declares .. => true
  | _ => false
def jN : List Cond := lw_tbl.filter jNest
theorem jN_in {w : Cond} (i : Nat) (h : lw_tbl[i]? = some w) (hg : jNest w = true) : w ∈ jN := List.mem_filter.mpr ⟨List.mem_of_getElem? h, hg⟩
theorem jN_warm {w : Cond} {s U : State} (hg : jNest w = true) (hW : s.WarmedH U.vm) (h : va_Nw w s) : va_Nw w U := by
  cases w <;> first | (simp [jNest] at hg; done) | exact va_Nw.warmF hW h | exact va_Nw.warmM hW h | exact va_Nw.warmC hW h | exact va_Nw.warmD hW h
/-- the five built-in tables -/
def jSn (k : Nat) : String := match k with
  | 0 => "LAYERS"
  | 1 => "LEAST"
  | 2 => "CELLS"
  | 3 => "WALKS"
  | _ => "COLOURS"
def jSl (k : Nat) : Nat := match k with
  | 0 => 60
  | 1 => 28
  | 2 => 68
  | 3 => 44
  | _ => 128
def jStab (k : Nat) : List Int32 := match k with
  | 0 => [0, 3, 1, 0,  8, 2, 0, 3,  14, 2, 4, 0,  15, 4, 1, 0,  18, 3, 0, 0,  0, 0, 2, 0, 0, 2, 0, 0,  8, 2, 0, 2,  14, 2, 6, 0,  15, 4, 5, 0,  16, 5, 0, 0,  14, 5, 3, 0, 0, 0, 1, 0,  19, 1, 0, 0,  0, 2, 0, 0]
  | 1 => [15, 4, 4, 0,  16, 2, 0, 0,  14, 2, 2, 0,  17, 2, 0, 0,  5, 0, 0, 2,  15, 4, 1, 0, 18, 0, 0, 0]
  | 2 => [15, 4, 2, 0,  17, 2, 0, 0,  2, 1, 1, 2,  19, 5, 0, 0,  0, 6, 1, 0,  7, 5, 6, 5, 14, 5, 8, 0,  0, 2, 3, 0,  8, 3, 1, 2,  0, 2, 2, 0,  8, 2, 1, 2,  9, 2, 2, 0, 10, 0, 3, 2,  0, 1, 0, 0,  0, 6, 0, 0,  15, 4, 1, 0,  18, 0, 0, 0]
  | 3 => [19, 5, 0, 0,  0, 6, 1, 0,  7, 5, 6, 5,  14, 5, 5, 0,  0, 1, 0, 0,  15, 4, 2, 0, 17, 2, 0, 0,  2, 1, 1, 2,  1, 0, 1, 0,  15, 4, 1, 0,  18, 0, 0, 0]
  | _ => [0, 3, 0, 0,  0, 5, 0, 0,  15, 4, 9, 0,  17, 2, 0, 0,  7, 6, 3, 2,  14, 6, 1, 0, 6, 5, 5, 2,  7, 6, 2, 3,  14, 6, 3, 0,  3, 2, 3, 2,  12, 2, 2, 0,  10, 7, 7, 2, 19, 2, 0, 0,  0, 6, 1, 0,  7, 2, 6, 2,  8, 6, 1, 3,  9, 2, 2, 6,  20, 6, 0, 0, 0, 4, 1, 0,  2, 6, 6, 4,  7, 4, 5, 6,  9, 2, 2, 4,  14, 2, 3, 0,  0, 4, 1, 0, 10, 7, 7, 4,  13, 1, 7, 0,  8, 4, 1, 3,  3, 5, 3, 1,  14, 4, 1, 0,  1, 5, 6, 0, 15, 4, 1, 0,  18, 5, 0, 0]
def jSt (k j : Nat) : Int32 := (jStab k).getD j 0
/-- the texts of the class's throws, by their entries -/
def jStr : List (Nat × String) := [(49, "a net has 1 to 24 nodes"), (272, "a run is prepared"), (261, "there is no such node"), (74, "a link has two different nodes"), (82, "these nodes have a link"), (91, "there are 60 links"), (101, "no place for such a word"), (103, "there are 64 words"), (109, "no such built-in program"), (114, "the program has not so many words"), (264, "there is no such register"), (123, "a plain run has 0 to 300 rounds"), (274, "a word of the program is wrong"), (143, "a way is 0 to 2, and p is 2 to 8"), (149, "not all nodes are reached from node 0"), (270, "no run is prepared"), (167, "STOP goes up, to 500 at most"), (266, "there is no such letter under way"), (184, "a letter has no such part"), (195, "a rule is 0 to 2, and most is 0 to 2000"), (198, "a way is 0 to 2"), (203, "the way was changed 8 times"), (214, "a place has no such part"), (268, "there is no such cluster"), (248, "no such count")]
/-- the kinds that the class throws -/
def jEx : List String := ["java/lang/IllegalArgumentException", "java/lang/IllegalStateException", "java/util/NoSuchElementException", "java/lang/UnsupportedOperationException", "java/lang/IndexOutOfBoundsException"]
/-- what holds at a method's entry besides the cells: classes, nest words, the static tables (cells 1000 and on), the throws' statics and texts -/
def jS (G : jG) (U : State) : Prop :=
  va_K G.2.2.1 vwCl (jTy G.2.1) U ∧ (∀ w ∈ jN, va_Nw w U) ∧
  (∀ k, k < 5 → va_Z RX4 (jSn k) "[I" (.ref (G.1 (1000 + k))) (jA G) U U.heap ∧ va_T .int (G.1 (1000 + k)) (jSl k) (fun j => .int (jSt k j)) (jA G) U U.heap) ∧
  vx_Zq Bundle.tN "UNASSIGNED_STACK" Bundle.steD (jA G) U U.heap ∧ vx_Zq Bundle.tN "SUPPRESSED_SENTINEL" Bundle.listD (jA G) U U.heap ∧ (∀ q ∈ jStr, ∃ a, vk_R RX7 q.1 q.2 a U) ∧ (∀ a ∈ jEx, ∀ b ∈ jEx, a ≠ b → va_Nc a b U)
theorem jS.call {G : jG} {s U : State} {H : Heap} {locs : List Loc} (h : jS G s) (hS : va_S (jA G) s.heap H locs) (hU : U.heap = H) (hW : s.WarmedH U.vm) : jS G U := by
  obtain ⟨h1, h2, h3, h4, h5, h6, h7⟩ := h
  refine ⟨h1.moved hW.alike, fun w hw => jN_warm (List.mem_filter.mp hw).2 hW (h2 w hw), fun k hk => ⟨?_, ?_⟩, ?_, ?_, fun q hq => ?_, fun a ha b hb hne => (h7 a ha b hb hne).moved hW.alike⟩
  · rw [hU]; exact ((h3 k hk).1.kept hS.2.1).moved hW.alike
  · rw [hU]; exact ((h3 k hk).2.kept hS.2.1).moved hW.alike
  · rw [hU]; exact (h4.kept hS.2.1).moved hW.alike
  · rw [hU]; exact (h5.kept hS.2.1).moved hW.alike
  · obtain ⟨a, ha⟩ := h6 q hq
    exact ⟨a, ha.warm hW⟩
/-- the cells and what else holds, at a method's entry -/
def jU (G : jG) (mu : jM) (U : State) : Prop := G.2.2.2 ≤ U.heap.size ∧ va_P G.2.2.1 vwCl (jW G.1 G.2.1 mu) U.heap ∧ jS G U
/-- the cells behind a method -/
def jB (G : jG) (mu : jM) (t : State) : Prop := va_P G.2.2.1 vwCl (jW G.1 G.2.1 mu) t.heap
def jGok (G : jG) : Prop := ∀ mu, va_D (jA G) (jW G.1 G.2.1 mu)
theorem jU.call {G : jG} {mu' : jM} {s U : State} {H : Heap} {locs : List Loc} (hz : G.2.2.2 ≤ s.heap.size) (h : jS G s) (hP : va_P G.2.2.1 vwCl (jW G.1 G.2.1 mu') H) (hS : va_S (jA G) s.heap H locs) (hU : U.heap = H) (hW : s.WarmedH U.vm) : jU G mu' U :=
  ⟨by rw [hU]; exact Nat.le_trans hz hS.1, by rw [hU]; exact hP, h.call hS hU hW⟩
/-- a room of so many frames and new cells (a thrown object has six slots) -/
def jR (h n : Nat) : Room := { frames := h, cells := n, slots := 6 * n, locals := 40 * h }
/-- what holds throughout a method's body -/
def jOk (l : Launch) (G : jG) (X : jX) (cc : ByteArray) (nL : Nat) (ret : Option FieldType) (own : String) (h n : Nat) : Prop := match X with
  | ((p, e, R, s), (m, args, below, meth, c)) => p.tables.exec = Jvm.exec ∧ c.code = cc ∧ c.maxLocals = nL ∧ s.vm.findClass own = some m.cls ∧ (∀ w ∈ jT, w.before args s = true) ∧ jS G s ∧ jGok G ∧ G.2.2.2 ≤ s.heap.size ∧ meth.locks = false ∧ meth.sig.returnType = ret ∧ (h ≤ R.frames ∧ 40 * h ≤ R.locals) ∧ (n ≤ R.cells ∧ 6 * n ≤ R.slots) ∧ l.stackTraces = false
def J (l : Launch) (G : jG) (X : jX) (Q : State → Prop) (nL pc : Nat) (ls st : List Value) (mu : jM) (n : Nat) : Prop := match X with
  | ((p, e, R, s), (m, args, below, meth, c)) => ∀ (H : Heap) (locs : List Loc) (Ls : Array Slot), va_P G.2.2.1 vwCl (jW G.1 G.2.1 mu) H → va_S (jA G) s.heap H locs → lv_has Ls nL (lvl G.1 ls) →
    W p l e R s m args below meth c H locs n (6 * n) Q (F0 m pc Ls (st.map (tv G.1)))
section JR
variable {l : Launch} {G : jG} {X : jX} {Q : State → Prop} {cc : ByteArray} {nL pc n hg nc : Nat} {ret : Option FieldType} {own : String} {ls st : List Value} {mu : jM}
theorem J_iconst {k : Int} {v : Int32} (h : jOk l G X cc nL ret own hg nc) (d : decode cc pc = .ok (.iconst k, 1)) (hv : Int32.ofInt k = v) (kk : J l G X Q nL (pc + 1) ls (.int v :: st) mu n) : J l G X Q nL pc ls st mu n := by
  obtain ⟨⟨p, e, R, s⟩, m, args, below, meth, c⟩ := X
  intro H locs Ls hP hS hL
  exact lv_iconst h.1 h.2.1 d hv (kk H locs Ls hP hS hL)
theorem J_bipush {k : Int} {v : Int32} (h : jOk l G X cc nL ret own hg nc) (d : decode cc pc = .ok (.bipush k, 2)) (hv : (Int8.ofInt k).toInt32 = v) (kk : J l G X Q nL (pc + 2) ls (.int v :: st) mu n) : J l G X Q nL pc ls st mu n := by
  obtain ⟨⟨p, e, R, s⟩, m, args, below, meth, c⟩ := X
  intro H locs Ls hP hS hL
  exact lv_bipush h.1 h.2.1 d hv (kk H locs Ls hP hS hL)
theorem J_sipush {k : Int} {v : Int32} (h : jOk l G X cc nL ret own hg nc) (d : decode cc pc = .ok (.sipush k, 3)) (hv : (Int16.ofInt k).toInt32 = v) (kk : J l G X Q nL (pc + 3) ls (.int v :: st) mu n) : J l G X Q nL pc ls st mu n := by
  obtain ⟨⟨p, e, R, s⟩, m, args, below, meth, c⟩ := X
  intro H locs Ls hP hS hL
  exact lv_sipush h.1 h.2.1 d hv (kk H locs Ls hP hS hL)
theorem J_lconst {k : Fin 2} {v : Int64} (h : jOk l G X cc nL ret own hg nc) (d : decode cc pc = .ok (.lconst k, 1)) (hv : Int64.ofNat (k : Nat) = v) (kk : J l G X Q nL (pc + 1) ls (.long v :: st) mu n) : J l G X Q nL pc ls st mu n := by
  obtain ⟨⟨p, e, R, s⟩, m, args, below, meth, c⟩ := X
  intro H locs Ls hP hS hL
  exact lv_lconst h.1 h.2.1 d hv (kk H locs Ls hP hS hL)
theorem J_ldc {k : Nat} {v : Int32} (h : jOk l G X cc nL ret own hg nc) (d : decode cc pc = .ok (.ldc k, 2)) (hw : Cond.constant own k v ∈ jT) (kk : J l G X Q nL (pc + 2) ls (.int v :: st) mu n) : J l G X Q nL pc ls st mu n := by
  obtain ⟨⟨p, e, R, s⟩, m, args, below, meth, c⟩ := X
  intro H locs Ls hP hS hL
  exact lv_ldc h.1 h.2.1 h.2.2.2.1 (h.2.2.2.2.1 _ hw) d (kk H locs Ls hP hS hL)
theorem J_ldc_w {k : Nat} {v : Int32} (h : jOk l G X cc nL ret own hg nc) (d : decode cc pc = .ok (.ldc_w k, 3)) (hw : Cond.constant own k v ∈ jT) (kk : J l G X Q nL (pc + 3) ls (.int v :: st) mu n) : J l G X Q nL pc ls st mu n := by
  obtain ⟨⟨p, e, R, s⟩, m, args, below, meth, c⟩ := X
  intro H locs Ls hP hS hL T hT Y
  obtain ⟨t, a1, b1⟩ := kk H locs Ls hP hS hL T hT Y
  exact ⟨t, va_ldcwI Y h.1 h.2.2.2.1 (h.2.2.2.2.1 _ hw) (g := F0 m pc Ls (st.map (tv G.1))) rfl (by rw [h.2.1]; exact d) t a1, b1⟩
theorem J_iload_n {k : Fin 4} {i : Nat} {x : Int32} (h : jOk l G X cc nL ret own hg nc) (d : decode cc pc = .ok (.iload_n k, 1)) (hi : (k : Nat) = i) (hl : ls[i]? = some (.int x)) (kk : J l G X Q nL (pc + 1) ls (.int x :: st) mu n) : J l G X Q nL pc ls st mu n := by
  obtain ⟨⟨p, e, R, s⟩, m, args, below, meth, c⟩ := X
  intro H locs Ls hP hS hL
  exact lv_iload_n h.1 h.2.1 d hi (lvl_get hL hl rfl) (kk H locs Ls hP hS hL)
theorem J_iload {i : Nat} {x : Int32} (h : jOk l G X cc nL ret own hg nc) (d : decode cc pc = .ok (.iload i, 2)) (hl : ls[i]? = some (.int x)) (kk : J l G X Q nL (pc + 2) ls (.int x :: st) mu n) : J l G X Q nL pc ls st mu n := by
  obtain ⟨⟨p, e, R, s⟩, m, args, below, meth, c⟩ := X
  intro H locs Ls hP hS hL
  exact lv_iload h.1 h.2.1 d (lvl_get hL hl rfl) (kk H locs Ls hP hS hL)
theorem J_lload_n {k : Fin 4} {i : Nat} {x : Int64} (h : jOk l G X cc nL ret own hg nc) (d : decode cc pc = .ok (.lload_n k, 1)) (hi : (k : Nat) = i) (hl : ls[i]? = some (.long x)) (kk : J l G X Q nL (pc + 1) ls (.long x :: st) mu n) : J l G X Q nL pc ls st mu n := by
  obtain ⟨⟨p, e, R, s⟩, m, args, below, meth, c⟩ := X
  intro H locs Ls hP hS hL
  exact lv_lload_n h.1 h.2.1 d hi (lvl_get hL hl rfl) (kk H locs Ls hP hS hL)
theorem J_lload {i : Nat} {x : Int64} (h : jOk l G X cc nL ret own hg nc) (d : decode cc pc = .ok (.lload i, 2)) (hl : ls[i]? = some (.long x)) (kk : J l G X Q nL (pc + 2) ls (.long x :: st) mu n) : J l G X Q nL pc ls st mu n := by
  obtain ⟨⟨p, e, R, s⟩, m, args, below, meth, c⟩ := X
  intro H locs Ls hP hS hL
  exact lv_lload h.1 h.2.1 d (lvl_get hL hl rfl) (kk H locs Ls hP hS hL)
theorem J_aload_n {k : Fin 4} {i a : Nat} (h : jOk l G X cc nL ret own hg nc) (d : decode cc pc = .ok (.aload_n k, 1)) (hi : (k : Nat) = i) (hl : ls[i]? = some (.ref a)) (kk : J l G X Q nL (pc + 1) ls (.ref a :: st) mu n) : J l G X Q nL pc ls st mu n := by
  obtain ⟨⟨p, e, R, s⟩, m, args, below, meth, c⟩ := X
  intro H locs Ls hP hS hL
  exact lv_aload_n h.1 h.2.1 d hi (lvl_get hL hl rfl) (kk H locs Ls hP hS hL)
theorem J_aload {i a : Nat} (h : jOk l G X cc nL ret own hg nc) (d : decode cc pc = .ok (.aload i, 2)) (hl : ls[i]? = some (.ref a)) (kk : J l G X Q nL (pc + 2) ls (.ref a :: st) mu n) : J l G X Q nL pc ls st mu n := by
  obtain ⟨⟨p, e, R, s⟩, m, args, below, meth, c⟩ := X
  intro H locs Ls hP hS hL
  exact lv_aload h.1 h.2.1 d (lvl_get hL hl rfl) (kk H locs Ls hP hS hL)
theorem J_istore_n {k : Fin 4} {i : Nat} {x : Int32} (h : jOk l G X cc nL ret own hg nc) (d : decode cc pc = .ok (.istore_n k, 1)) (hi : (k : Nat) = i) (hn : i < nL) (hc : lcat ls i = true) (kk : J l G X Q nL (pc + 1) (ls.set i (.int x)) st mu n) : J l G X Q nL pc ls (.int x :: st) mu n := by
  obtain ⟨⟨p, e, R, s⟩, m, args, below, meth, c⟩ := X
  intro H locs Ls hP hS hL
  exact lv_istore_n h.1 h.2.1 d hi hL hn rfl (fun Ls' hL' => kk H locs Ls' hP hS (lvl_set (v := .int x) hc hL'))
theorem J_istore {i : Nat} {x : Int32} (h : jOk l G X cc nL ret own hg nc) (d : decode cc pc = .ok (.istore i, 2)) (hn : i < nL) (hc : lcat ls i = true) (kk : J l G X Q nL (pc + 2) (ls.set i (.int x)) st mu n) : J l G X Q nL pc ls (.int x :: st) mu n := by
  obtain ⟨⟨p, e, R, s⟩, m, args, below, meth, c⟩ := X
  intro H locs Ls hP hS hL
  exact lv_istore h.1 h.2.1 d hL hn rfl (fun Ls' hL' => kk H locs Ls' hP hS (lvl_set (v := .int x) hc hL'))
theorem J_astore_n {k : Fin 4} {i a : Nat} (h : jOk l G X cc nL ret own hg nc) (d : decode cc pc = .ok (.astore_n k, 1)) (hi : (k : Nat) = i) (hn : i < nL) (hc : lcat ls i = true) (kk : J l G X Q nL (pc + 1) (ls.set i (.ref a)) st mu n) : J l G X Q nL pc ls (.ref a :: st) mu n := by
  obtain ⟨⟨p, e, R, s⟩, m, args, below, meth, c⟩ := X
  intro H locs Ls hP hS hL
  exact lv_astore_n h.1 h.2.1 d hi hL hn rfl (fun Ls' hL' => kk H locs Ls' hP hS (lvl_set (v := .ref a) hc hL'))
theorem J_astore {i a : Nat} (h : jOk l G X cc nL ret own hg nc) (d : decode cc pc = .ok (.astore i, 2)) (hn : i < nL) (hc : lcat ls i = true) (kk : J l G X Q nL (pc + 2) (ls.set i (.ref a)) st mu n) : J l G X Q nL pc ls (.ref a :: st) mu n := by
  obtain ⟨⟨p, e, R, s⟩, m, args, below, meth, c⟩ := X
  intro H locs Ls hP hS hL
  exact lv_astore h.1 h.2.1 d hL hn rfl (fun Ls' hL' => kk H locs Ls' hP hS (lvl_set (v := .ref a) hc hL'))
theorem J_lstore {i : Nat} {x : Int64} (h : jOk l G X cc nL ret own hg nc) (d : decode cc pc = .ok (.lstore i, 2)) (hn : i + 1 < nL) (hc : lcat ls i = true) (kk : J l G X Q nL (pc + 2) ((ls.set i (.long x)).set (i + 1) (.float 0)) st mu n) : J l G X Q nL pc ls (.long x :: st) mu n := by
  obtain ⟨⟨p, e, R, s⟩, m, args, below, meth, c⟩ := X
  intro H locs Ls hP hS hL
  exact lv_lstore h.1 h.2.1 d hL hn rfl (fun Ls' hL' => kk H locs Ls' hP hS (lvl_set2 (v := .long x) 0 hc hL'))
theorem J_iinc {i : Nat} {k : Int} {x v : Int32} (h : jOk l G X cc nL ret own hg nc) (d : decode cc pc = .ok (.iinc i k, 3)) (hl : ls[i]? = some (.int x)) (hv : x + Int32.ofInt k = v) (hn : i < nL) (hc : lcat ls i = true) (kk : J l G X Q nL (pc + 3) (ls.set i (.int v)) st mu n) : J l G X Q nL pc ls st mu n := by
  obtain ⟨⟨p, e, R, s⟩, m, args, below, meth, c⟩ := X
  intro H locs Ls hP hS hL
  obtain ⟨j, hj⟩ := List.getElem?_of_mem (lvl_mem.mpr ⟨_, hl, rfl, rfl⟩ : (i, tv G.1 (.int x)) ∈ lvl G.1 ls)
  exact lv_iinc h.1 h.2.1 d hL hj hv hn rfl (fun Ls' hL' => kk H locs Ls' hP hS (lvl_set (v := .int v) hc hL'))
theorem J_iadd {x y : Int32} (h : jOk l G X cc nL ret own hg nc) (d : decode cc pc = .ok (.iadd, 1)) (kk : J l G X Q nL (pc + 1) ls (.int (x + y) :: st) mu n) : J l G X Q nL pc ls (.int y :: .int x :: st) mu n := by
  obtain ⟨⟨p, e, R, s⟩, m, args, below, meth, c⟩ := X
  intro H locs Ls hP hS hL
  exact lv_iadd h.1 h.2.1 d (kk H locs Ls hP hS hL)
theorem J_isub {x y : Int32} (h : jOk l G X cc nL ret own hg nc) (d : decode cc pc = .ok (.isub, 1)) (kk : J l G X Q nL (pc + 1) ls (.int (x - y) :: st) mu n) : J l G X Q nL pc ls (.int y :: .int x :: st) mu n := by
  obtain ⟨⟨p, e, R, s⟩, m, args, below, meth, c⟩ := X
  intro H locs Ls hP hS hL
  exact lv_isub h.1 h.2.1 d (kk H locs Ls hP hS hL)
theorem J_imul {x y : Int32} (h : jOk l G X cc nL ret own hg nc) (d : decode cc pc = .ok (.imul, 1)) (kk : J l G X Q nL (pc + 1) ls (.int (x * y) :: st) mu n) : J l G X Q nL pc ls (.int y :: .int x :: st) mu n := by
  obtain ⟨⟨p, e, R, s⟩, m, args, below, meth, c⟩ := X
  intro H locs Ls hP hS hL
  exact lv_imul h.1 h.2.1 d (kk H locs Ls hP hS hL)
theorem J_iand {x y : Int32} (h : jOk l G X cc nL ret own hg nc) (d : decode cc pc = .ok (.iand, 1)) (kk : J l G X Q nL (pc + 1) ls (.int (x &&& y) :: st) mu n) : J l G X Q nL pc ls (.int y :: .int x :: st) mu n := by
  obtain ⟨⟨p, e, R, s⟩, m, args, below, meth, c⟩ := X
  intro H locs Ls hP hS hL
  exact lv_iand h.1 h.2.1 d (kk H locs Ls hP hS hL)
theorem J_ior {x y : Int32} (h : jOk l G X cc nL ret own hg nc) (d : decode cc pc = .ok (.ior, 1)) (kk : J l G X Q nL (pc + 1) ls (.int (x ||| y) :: st) mu n) : J l G X Q nL pc ls (.int y :: .int x :: st) mu n := by
  obtain ⟨⟨p, e, R, s⟩, m, args, below, meth, c⟩ := X
  intro H locs Ls hP hS hL
  exact lv_ior h.1 h.2.1 d (kk H locs Ls hP hS hL)
theorem J_ixor {x y : Int32} (h : jOk l G X cc nL ret own hg nc) (d : decode cc pc = .ok (.ixor, 1)) (kk : J l G X Q nL (pc + 1) ls (.int (x ^^^ y) :: st) mu n) : J l G X Q nL pc ls (.int y :: .int x :: st) mu n := by
  obtain ⟨⟨p, e, R, s⟩, m, args, below, meth, c⟩ := X
  intro H locs Ls hP hS hL
  exact lv_ixor h.1 h.2.1 d (kk H locs Ls hP hS hL)
theorem J_ishl {x y : Int32} (h : jOk l G X cc nL ret own hg nc) (d : decode cc pc = .ok (.ishl, 1)) (kk : J l G X Q nL (pc + 1) ls (.int (x <<< (y &&& 31)) :: st) mu n) : J l G X Q nL pc ls (.int y :: .int x :: st) mu n := by
  obtain ⟨⟨p, e, R, s⟩, m, args, below, meth, c⟩ := X
  intro H locs Ls hP hS hL
  exact lv_ishl h.1 h.2.1 d (kk H locs Ls hP hS hL)
theorem J_ishr {x y : Int32} (h : jOk l G X cc nL ret own hg nc) (d : decode cc pc = .ok (.ishr, 1)) (kk : J l G X Q nL (pc + 1) ls (.int (x >>> (y &&& 31)) :: st) mu n) : J l G X Q nL pc ls (.int y :: .int x :: st) mu n := by
  obtain ⟨⟨p, e, R, s⟩, m, args, below, meth, c⟩ := X
  intro H locs Ls hP hS hL
  exact lv_ishr h.1 h.2.1 d (kk H locs Ls hP hS hL)
theorem J_iushr {x y : Int32} (h : jOk l G X cc nL ret own hg nc) (d : decode cc pc = .ok (.iushr, 1)) (kk : J l G X Q nL (pc + 1) ls (.int ((x.toUInt32 >>> (y.toUInt32 &&& Int32.toUInt32 31)).toInt32) :: st) mu n) : J l G X Q nL pc ls (.int y :: .int x :: st) mu n := by
  obtain ⟨⟨p, e, R, s⟩, m, args, below, meth, c⟩ := X
  intro H locs Ls hP hS hL
  exact lv_iushr h.1 h.2.1 d rfl (kk H locs Ls hP hS hL)
theorem J_idiv {x y : Int32} (h : jOk l G X cc nL ret own hg nc) (d : decode cc pc = .ok (.idiv, 1)) (hne : ¬ y = 0) (kk : J l G X Q nL (pc + 1) ls (.int (x / y) :: st) mu n) : J l G X Q nL pc ls (.int y :: .int x :: st) mu n := by
  obtain ⟨⟨p, e, R, s⟩, m, args, below, meth, c⟩ := X
  intro H locs Ls hP hS hL
  exact lv_idiv h.1 h.2.1 d hne (kk H locs Ls hP hS hL)
theorem J_irem {x y : Int32} (h : jOk l G X cc nL ret own hg nc) (d : decode cc pc = .ok (.irem, 1)) (hne : ¬ y = 0) (kk : J l G X Q nL (pc + 1) ls (.int (x - x / y * y) :: st) mu n) : J l G X Q nL pc ls (.int y :: .int x :: st) mu n := by
  obtain ⟨⟨p, e, R, s⟩, m, args, below, meth, c⟩ := X
  intro H locs Ls hP hS hL
  exact lv_irem h.1 h.2.1 d hne (kk H locs Ls hP hS hL)
theorem J_ineg {x : Int32} (h : jOk l G X cc nL ret own hg nc) (d : decode cc pc = .ok (.ineg, 1)) (kk : J l G X Q nL (pc + 1) ls (.int (-x) :: st) mu n) : J l G X Q nL pc ls (.int x :: st) mu n := by
  obtain ⟨⟨p, e, R, s⟩, m, args, below, meth, c⟩ := X
  intro H locs Ls hP hS hL
  exact lv_ineg h.1 h.2.1 d (kk H locs Ls hP hS hL)
theorem J_i2l {x : Int32} (h : jOk l G X cc nL ret own hg nc) (d : decode cc pc = .ok (.i2l, 1)) (kk : J l G X Q nL (pc + 1) ls (.long x.toInt64 :: st) mu n) : J l G X Q nL pc ls (.int x :: st) mu n := by
  obtain ⟨⟨p, e, R, s⟩, m, args, below, meth, c⟩ := X
  intro H locs Ls hP hS hL
  exact lv_i2l h.1 h.2.1 d rfl (kk H locs Ls hP hS hL)
theorem J_ladd {x y : Int64} (h : jOk l G X cc nL ret own hg nc) (d : decode cc pc = .ok (.ladd, 1)) (kk : J l G X Q nL (pc + 1) ls (.long (x + y) :: st) mu n) : J l G X Q nL pc ls (.long y :: .long x :: st) mu n := by
  obtain ⟨⟨p, e, R, s⟩, m, args, below, meth, c⟩ := X
  intro H locs Ls hP hS hL
  exact lv_ladd h.1 h.2.1 d (kk H locs Ls hP hS hL)
theorem J_lcmp {x y : Int64} (h : jOk l G X cc nL ret own hg nc) (d : decode cc pc = .ok (.lcmp, 1)) (kk : J l G X Q nL (pc + 1) ls (.int (lg_cmp x y) :: st) mu n) : J l G X Q nL pc ls (.long y :: .long x :: st) mu n := by
  obtain ⟨⟨p, e, R, s⟩, m, args, below, meth, c⟩ := X
  intro H locs Ls hP hS hL
  exact W.lcmp h.1 h.2.1 d (kk H locs Ls hP hS hL)
theorem J_dup {v : Value} (h : jOk l G X cc nL ret own hg nc) (d : decode cc pc = .ok (.dup, 1)) (hc : v.category = 1) (kk : J l G X Q nL (pc + 1) ls (v :: v :: st) mu n) : J l G X Q nL pc ls (v :: st) mu n := by
  obtain ⟨⟨p, e, R, s⟩, m, args, below, meth, c⟩ := X
  intro H locs Ls hP hS hL
  exact lv_dup h.1 h.2.1 d ((tv_cat G.1 v).trans hc) (kk H locs Ls hP hS hL)
theorem J_pop {v : Value} (h : jOk l G X cc nL ret own hg nc) (d : decode cc pc = .ok (.pop, 1)) (hc : v.category = 1) (kk : J l G X Q nL (pc + 1) ls (st) mu n) : J l G X Q nL pc ls (v :: st) mu n := by
  obtain ⟨⟨p, e, R, s⟩, m, args, below, meth, c⟩ := X
  intro H locs Ls hP hS hL
  exact lv_pop h.1 h.2.1 d ((tv_cat G.1 v).trans hc) (kk H locs Ls hP hS hL)
theorem J_dup2 {v w : Value} (h : jOk l G X cc nL ret own hg nc) (d : decode cc pc = .ok (.dup2, 1)) (hc : v.category = 1) (hd : w.category = 1) (kk : J l G X Q nL (pc + 1) ls (v :: w :: v :: w :: st) mu n) : J l G X Q nL pc ls (v :: w :: st) mu n := by
  obtain ⟨⟨p, e, R, s⟩, m, args, below, meth, c⟩ := X
  intro H locs Ls hP hS hL
  exact lv_dup2_11 h.1 h.2.1 d ((tv_cat G.1 v).trans hc) ((tv_cat G.1 w).trans hd) (kk H locs Ls hP hS hL)
theorem J_if_eq {x : Int32} {off : Int} {tgt : Nat} (h : jOk l G X cc nL ret own hg nc) (d : decode cc pc = .ok (.ifCond .eq off, 3)) (ht : (pc : Int) + off = (tgt : Int)) (kt : x = 0 → J l G X Q nL tgt ls st mu n) (kf : ¬ x = 0 → J l G X Q nL (pc + 3) ls st mu n) : J l G X Q nL pc ls (.int x :: st) mu n := by
  obtain ⟨⟨p, e, R, s⟩, m, args, below, meth, c⟩ := X
  intro H locs Ls hP hS hL
  exact lv_if_eq h.1 h.2.1 d ht (fun q => kt q H locs Ls hP hS hL) (fun q => kf q H locs Ls hP hS hL)
theorem J_icmp_eq {x y : Int32} {off : Int} {tgt : Nat} (h : jOk l G X cc nL ret own hg nc) (d : decode cc pc = .ok (.if_icmp .eq off, 3)) (ht : (pc : Int) + off = (tgt : Int)) (kt : x = y → J l G X Q nL tgt ls st mu n) (kf : ¬ x = y → J l G X Q nL (pc + 3) ls st mu n) : J l G X Q nL pc ls (.int y :: .int x :: st) mu n := by
  obtain ⟨⟨p, e, R, s⟩, m, args, below, meth, c⟩ := X
  intro H locs Ls hP hS hL
  exact lv_icmp_eq h.1 h.2.1 d ht (fun q => kt q H locs Ls hP hS hL) (fun q => kf q H locs Ls hP hS hL)
theorem J_if_ne {x : Int32} {off : Int} {tgt : Nat} (h : jOk l G X cc nL ret own hg nc) (d : decode cc pc = .ok (.ifCond .ne off, 3)) (ht : (pc : Int) + off = (tgt : Int)) (kt : ¬ x = 0 → J l G X Q nL tgt ls st mu n) (kf : x = 0 → J l G X Q nL (pc + 3) ls st mu n) : J l G X Q nL pc ls (.int x :: st) mu n := by
  obtain ⟨⟨p, e, R, s⟩, m, args, below, meth, c⟩ := X
  intro H locs Ls hP hS hL
  exact lv_if_ne h.1 h.2.1 d ht (fun q => kt q H locs Ls hP hS hL) (fun q => kf q H locs Ls hP hS hL)
theorem J_icmp_ne {x y : Int32} {off : Int} {tgt : Nat} (h : jOk l G X cc nL ret own hg nc) (d : decode cc pc = .ok (.if_icmp .ne off, 3)) (ht : (pc : Int) + off = (tgt : Int)) (kt : ¬ x = y → J l G X Q nL tgt ls st mu n) (kf : x = y → J l G X Q nL (pc + 3) ls st mu n) : J l G X Q nL pc ls (.int y :: .int x :: st) mu n := by
  obtain ⟨⟨p, e, R, s⟩, m, args, below, meth, c⟩ := X
  intro H locs Ls hP hS hL
  exact lv_icmp_ne h.1 h.2.1 d ht (fun q => kt q H locs Ls hP hS hL) (fun q => kf q H locs Ls hP hS hL)
theorem J_if_lt {x : Int32} {off : Int} {tgt : Nat} (h : jOk l G X cc nL ret own hg nc) (d : decode cc pc = .ok (.ifCond .lt off, 3)) (ht : (pc : Int) + off = (tgt : Int)) (kt : x < 0 → J l G X Q nL tgt ls st mu n) (kf : ¬ x < 0 → J l G X Q nL (pc + 3) ls st mu n) : J l G X Q nL pc ls (.int x :: st) mu n := by
  obtain ⟨⟨p, e, R, s⟩, m, args, below, meth, c⟩ := X
  intro H locs Ls hP hS hL
  exact lv_if_lt h.1 h.2.1 d ht (fun q => kt q H locs Ls hP hS hL) (fun q => kf q H locs Ls hP hS hL)
theorem J_icmp_lt {x y : Int32} {off : Int} {tgt : Nat} (h : jOk l G X cc nL ret own hg nc) (d : decode cc pc = .ok (.if_icmp .lt off, 3)) (ht : (pc : Int) + off = (tgt : Int)) (kt : x < y → J l G X Q nL tgt ls st mu n) (kf : ¬ x < y → J l G X Q nL (pc + 3) ls st mu n) : J l G X Q nL pc ls (.int y :: .int x :: st) mu n := by
  obtain ⟨⟨p, e, R, s⟩, m, args, below, meth, c⟩ := X
  intro H locs Ls hP hS hL
  exact lv_icmp_lt h.1 h.2.1 d ht (fun q => kt q H locs Ls hP hS hL) (fun q => kf q H locs Ls hP hS hL)
theorem J_if_ge {x : Int32} {off : Int} {tgt : Nat} (h : jOk l G X cc nL ret own hg nc) (d : decode cc pc = .ok (.ifCond .ge off, 3)) (ht : (pc : Int) + off = (tgt : Int)) (kt : 0 ≤ x → J l G X Q nL tgt ls st mu n) (kf : ¬ 0 ≤ x → J l G X Q nL (pc + 3) ls st mu n) : J l G X Q nL pc ls (.int x :: st) mu n := by
  obtain ⟨⟨p, e, R, s⟩, m, args, below, meth, c⟩ := X
  intro H locs Ls hP hS hL
  exact lv_if_ge h.1 h.2.1 d ht (fun q => kt q H locs Ls hP hS hL) (fun q => kf q H locs Ls hP hS hL)
theorem J_icmp_ge {x y : Int32} {off : Int} {tgt : Nat} (h : jOk l G X cc nL ret own hg nc) (d : decode cc pc = .ok (.if_icmp .ge off, 3)) (ht : (pc : Int) + off = (tgt : Int)) (kt : y ≤ x → J l G X Q nL tgt ls st mu n) (kf : ¬ y ≤ x → J l G X Q nL (pc + 3) ls st mu n) : J l G X Q nL pc ls (.int y :: .int x :: st) mu n := by
  obtain ⟨⟨p, e, R, s⟩, m, args, below, meth, c⟩ := X
  intro H locs Ls hP hS hL
  exact lv_icmp_ge h.1 h.2.1 d ht (fun q => kt q H locs Ls hP hS hL) (fun q => kf q H locs Ls hP hS hL)
theorem J_if_gt {x : Int32} {off : Int} {tgt : Nat} (h : jOk l G X cc nL ret own hg nc) (d : decode cc pc = .ok (.ifCond .gt off, 3)) (ht : (pc : Int) + off = (tgt : Int)) (kt : 0 < x → J l G X Q nL tgt ls st mu n) (kf : ¬ 0 < x → J l G X Q nL (pc + 3) ls st mu n) : J l G X Q nL pc ls (.int x :: st) mu n := by
  obtain ⟨⟨p, e, R, s⟩, m, args, below, meth, c⟩ := X
  intro H locs Ls hP hS hL
  exact lv_if_gt h.1 h.2.1 d ht (fun q => kt q H locs Ls hP hS hL) (fun q => kf q H locs Ls hP hS hL)
theorem J_icmp_gt {x y : Int32} {off : Int} {tgt : Nat} (h : jOk l G X cc nL ret own hg nc) (d : decode cc pc = .ok (.if_icmp .gt off, 3)) (ht : (pc : Int) + off = (tgt : Int)) (kt : y < x → J l G X Q nL tgt ls st mu n) (kf : ¬ y < x → J l G X Q nL (pc + 3) ls st mu n) : J l G X Q nL pc ls (.int y :: .int x :: st) mu n := by
  obtain ⟨⟨p, e, R, s⟩, m, args, below, meth, c⟩ := X
  intro H locs Ls hP hS hL
  exact lv_icmp_gt h.1 h.2.1 d ht (fun q => kt q H locs Ls hP hS hL) (fun q => kf q H locs Ls hP hS hL)
theorem J_if_le {x : Int32} {off : Int} {tgt : Nat} (h : jOk l G X cc nL ret own hg nc) (d : decode cc pc = .ok (.ifCond .le off, 3)) (ht : (pc : Int) + off = (tgt : Int)) (kt : x ≤ 0 → J l G X Q nL tgt ls st mu n) (kf : ¬ x ≤ 0 → J l G X Q nL (pc + 3) ls st mu n) : J l G X Q nL pc ls (.int x :: st) mu n := by
  obtain ⟨⟨p, e, R, s⟩, m, args, below, meth, c⟩ := X
  intro H locs Ls hP hS hL
  exact lv_if_le h.1 h.2.1 d ht (fun q => kt q H locs Ls hP hS hL) (fun q => kf q H locs Ls hP hS hL)
theorem J_icmp_le {x y : Int32} {off : Int} {tgt : Nat} (h : jOk l G X cc nL ret own hg nc) (d : decode cc pc = .ok (.if_icmp .le off, 3)) (ht : (pc : Int) + off = (tgt : Int)) (kt : x ≤ y → J l G X Q nL tgt ls st mu n) (kf : ¬ x ≤ y → J l G X Q nL (pc + 3) ls st mu n) : J l G X Q nL pc ls (.int y :: .int x :: st) mu n := by
  obtain ⟨⟨p, e, R, s⟩, m, args, below, meth, c⟩ := X
  intro H locs Ls hP hS hL
  exact lv_icmp_le h.1 h.2.1 d ht (fun q => kt q H locs Ls hP hS hL) (fun q => kf q H locs Ls hP hS hL)
theorem J_goto {off : Int} {tgt : Nat} (h : jOk l G X cc nL ret own hg nc) (d : decode cc pc = .ok (.goto off, 3)) (ht : (pc : Int) + off = (tgt : Int)) (kk : J l G X Q nL tgt ls st mu n) : J l G X Q nL pc ls st mu n := by
  obtain ⟨⟨p, e, R, s⟩, m, args, below, meth, c⟩ := X
  intro H locs Ls hP hS hL
  exact lv_goto h.1 h.2.1 d ht (kk H locs Ls hP hS hL)
theorem J_lookup {dflt : Int} {ps : Array (Int × Int)} {len tgt : Nat} {x : Int32} {off : Int} (h : jOk l G X cc nL ret own hg nc) (d : decode cc pc = .ok (.lookupswitch dflt ps, len)) (hp : (ps.toList.zip (ps.toList.drop 1)).all (fun (a, next) => a.1 < next.1) = true) (ho : Op.lookupswitch.offset ps.toList dflt x.toInt = off) (ht : (pc : Int) + off = (tgt : Int)) (kk : J l G X Q nL tgt ls st mu n) : J l G X Q nL pc ls (.int x :: st) mu n := by
  obtain ⟨⟨p, e, R, s⟩, m, args, below, meth, c⟩ := X
  intro H locs Ls hP hS hL
  exact lv_lookup h.1 h.2.1 d hp ho ht (kk H locs Ls hP hS hL)
theorem J_tableOut {dflt lo hi : Int} {offs : Array Int} {len tgt : Nat} {x : Int32} (h : jOk l G X cc nL ret own hg nc) (d : decode cc pc = .ok (.tableswitch dflt lo hi offs, len)) (ho : x.toInt < lo ∨ hi < x.toInt) (ht : (pc : Int) + dflt = (tgt : Int)) (kk : J l G X Q nL tgt ls st mu n) : J l G X Q nL pc ls (.int x :: st) mu n := by
  obtain ⟨⟨p, e, R, s⟩, m, args, below, meth, c⟩ := X
  intro H locs Ls hP hS hL
  exact lv_tableOut h.1 h.2.1 d ho ht (kk H locs Ls hP hS hL)
theorem J_tableIn {dflt lo hi : Int} {offs : Array Int} {len tgt : Nat} {x : Int32} {off : Int} (h : jOk l G X cc nL ret own hg nc) (d : decode cc pc = .ok (.tableswitch dflt lo hi offs, len)) (h1 : ¬ x.toInt < lo) (h2 : ¬ hi < x.toInt) (ho : offs[(x.toInt - lo).toNat]? = some off) (ht : (pc : Int) + off = (tgt : Int)) (kk : J l G X Q nL tgt ls st mu n) : J l G X Q nL pc ls (.int x :: st) mu n := by
  obtain ⟨⟨p, e, R, s⟩, m, args, below, meth, c⟩ := X
  intro H locs Ls hP hS hL
  exact lv_tableIn h.1 h.2.1 d h1 h2 ho ht (kk H locs Ls hP hS hL)
end JR
