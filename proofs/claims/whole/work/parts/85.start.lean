/-! ===== printed by wip/whole/start.py: from the law's entry to its loop ===== -/
theorem w97 : (Jvm.Cond.classLink "LockstepNetLaw" (8 : Nat) "LockstepNet") ∈ jT := jT_in 97 (by decide +kernel) (by decide +kernel)
theorem w98 : (Jvm.Cond.instantiable "LockstepNet" (6 : Nat)) ∈ jT := jT_in 98 (by decide +kernel) (by decide +kernel)
theorem w99 : (Jvm.Cond.methodLink "LockstepNetLaw" (85 : Nat) ({ cls := "LockstepNet", name := "<init>", desc := "()V" } : Jvm.MethodName)) ∈ jT := jT_in 99 (by decide +kernel) (by decide +kernel)
theorem w100 : (Jvm.Cond.instanceMethod ({ cls := "LockstepNet", name := "<init>", desc := "()V" } : Jvm.MethodName)) ∈ jT := jT_in 100 (by decide +kernel) (by decide +kernel)
theorem w101 : (Jvm.Cond.code ({ cls := "LockstepNet", name := "<init>", desc := "()V" } : Jvm.MethodName) prog_1_method_1_code (1 : Nat) (Option.none : Option Jvm.ClassFile.FieldType)) ∈ jT := jT_in 101 (by decide +kernel) (by decide +kernel)
theorem w978 : (Jvm.Cond.classLink "LockstepNetLaw" (86 : Nat) "LockstepNetModel") ∈ jT := jT_in 978 (by decide +kernel) (by decide +kernel)
theorem w979 : (Jvm.Cond.instantiable "LockstepNetModel" (44 : Nat)) ∈ jT := jT_in 979 (by decide +kernel) (by decide +kernel)
theorem w980 : (Jvm.Cond.methodLink "LockstepNetLaw" (88 : Nat) ({ cls := "LockstepNetModel", name := "<init>", desc := "()V" } : Jvm.MethodName)) ∈ jT := jT_in 980 (by decide +kernel) (by decide +kernel)
theorem w981 : (Jvm.Cond.instanceMethod ({ cls := "LockstepNetModel", name := "<init>", desc := "()V" } : Jvm.MethodName)) ∈ jT := jT_in 981 (by decide +kernel) (by decide +kernel)
theorem w982 : (Jvm.Cond.code ({ cls := "LockstepNetModel", name := "<init>", desc := "()V" } : Jvm.MethodName) prog_10_method_1_code (1 : Nat) (Option.none : Option Jvm.ClassFile.FieldType)) ∈ jT := jT_in 982 (by decide +kernel) (by decide +kernel)
theorem w1405 : (Jvm.Cond.arrayClass Jvm.ClassFile.FieldType.long) ∈ jT := jT_in 1405 (by decide +kernel) (by decide +kernel)
theorem nmX7_init : jNm yX7_init 0 := by unfold jNm; decide +kernel
theorem nmX8_init : jNm yX8_init 0 := by unfold jNm; decide +kernel
theorem gr0 : GR (fun _ _ => 0) := by
  refine ⟨0, [], [], false, 0, rs0 (fun _ => 0) 0, fun _ => 0, fun _ => 0, GA.mk0 (netok_nil (by decide)) (by decide), GC.mk0 ⟨rfl, rfl, fun k e he => (by cases he), fun a _ => ⟨?_, ?_, fun p b hb => ?_⟩⟩ ⟨rfl, fun i w hw => (by cases hw)⟩ rfl (fun _ _ => ⟨rfl, rfl⟩), GM.mk0 ⟨rfl, rfl, fun k e he => (by cases he), fun a _ => ⟨?_, fun p k hk => ?_⟩⟩ ⟨rfl, fun i w hw => (by cases hw)⟩ rfl (fun _ _ => ⟨rfl, rfl⟩)⟩
  · simp [nbl, nI]
  · simp [nbl, msk]
  · simp [nbl] at hb
  · simp [pll, nI]
  · simp [pll] at hk
section C85
variable {l : Launch} {g : kG} {X : jX} {Q : State → Prop} {cc : ByteArray} {nL pc n z hg nc ns : Nat} {own : String} {lv lv' : List (Nat × Value)} {st : List Value} {ws : va_W}
theorem KJ_astore_n {k : Fin 4} {i x : Nat} (h : kOk l g X cc nL own hg nc ns) (d : decode cc pc = .ok (.astore_n k, 1)) (hi : (k : Nat) = i) (hn : i < nL) (hl : (i, Value.ref x) :: lv.filter (fun q => !(q.1 == i) && !(q.1 + 1 == i && q.2.category == 2)) = lv') (kk : KJ l g X Q nL (pc + 1) lv' st ws n z) : KJ l g X Q nL pc lv (.ref x :: st) ws n z := by
  obtain ⟨⟨p, e, R, s⟩, m, args, below, meth, c⟩ := X
  intro H locs Ls hP hD hS hL
  exact lv_astore_n h.1 h.2.1 d hi hL hn hl (fun Ls' hL' => kk H locs Ls' hP hD hS hL')
theorem KJ_istore {i : Nat} {x : Int32} (h : kOk l g X cc nL own hg nc ns) (d : decode cc pc = .ok (.istore i, 2)) (hn : i < nL) (hl : (i, Value.int x) :: lv.filter (fun q => !(q.1 == i) && !(q.1 + 1 == i && q.2.category == 2)) = lv') (kk : KJ l g X Q nL (pc + 2) lv' st ws n z) : KJ l g X Q nL pc lv (.int x :: st) ws n z := by
  obtain ⟨⟨p, e, R, s⟩, m, args, below, meth, c⟩ := X
  intro H locs Ls hP hD hS hL
  exact lv_istore h.1 h.2.1 d hL hn hl (fun Ls' hL' => kk H locs Ls' hP hD hS hL')
theorem kOut {D : va_G} {cl : List vw_C} {a N : Nat} {c : ClassId} {f f' : Nat → Option Nat} {H : Heap} (h : va_at D cl (a, .inl (c, (N, .inr (.inr (.inr (.inr f)))))) H) (hf : ∀ j, j < N → f j = f' j) : va_at D cl (a, .inl (c, (N, .inr (.inr (.inr (.inr f')))))) H := by
  have h1 : H[a]? = some (arrV c N (fun j => va_rf (f j))) := h
  show H[a]? = some (arrV c N (fun j => va_rf (f' j)))
  rw [h1, arrV_ext (fun j hj => by rw [hf j hj])]
/-- the cells as the constructors made them -/
def kWS (g : kG) (ad1 ad2 : Nat → Nat) (q1 q2 q3 : Nat) : va_W := [(q3, .inl (g.2.1 2, (1, .inr (.inl (fun _ => (0 : Int32).toInt64))))), (ad2 0, .inl (g.2.1 0, (240, .inl (fun _ => 0)))), (ad2 1, .inl (g.2.1 1, (240, .inl (fun _ => 0)))), (ad2 2, .inl (g.2.1 0, (3, .inl (fun _ => 0)))), (ad2 3, .inl (g.2.1 0, (20480, .inl (fun _ => 0)))), (ad2 4, .inl (g.2.1 0, (24, .inl (fun _ => 0)))), (ad2 5, .inl (g.2.1 1, (60, .inl (fun _ => 0)))), (ad2 6, .inl (g.2.1 0, (24, .inl (fun _ => 0)))), (ad2 7, .inl (g.2.1 0, (24, .inl (fun _ => 0)))), (ad2 8, .inl (g.2.1 0, (24, .inl (fun _ => 0)))), (ad2 9, .inl (g.2.1 0, (24, .inl (fun _ => 0)))), (ad2 10, .inl (g.2.1 0, (24, .inl (fun _ => 0)))), (ad2 11, .inl (g.2.1 0, (384, .inl (fun _ => 0)))), (ad2 12, .inl (g.2.1 1, (24, .inl (fun _ => 0)))), (ad2 13, .inl (g.2.1 1, (24, .inl (fun _ => 0)))), (ad2 14, .inl (g.2.1 1, (24, .inl (fun _ => 0)))), (ad2 15, .inl (g.2.1 0, (24, .inl (fun _ => 0)))), (ad2 16, .inl (g.2.1 0, (192, .inl (fun _ => 0)))), (ad2 17, .inl (g.2.1 0, (24, .inl (fun _ => 0)))), (ad2 18, .inl (g.2.1 0, (9, .inl (fun _ => 0)))), (ad2 19, .inl (g.2.1 0, (9, .inl (fun _ => 0)))), (ad2 20, .inl (g.2.1 0, (240, .inl (fun _ => 0)))), (ad2 21, .inl (g.2.1 1, (240, .inl (fun _ => 0)))), (ad2 22, .inl (g.2.1 0, (24, .inl (fun _ => 0)))), (ad2 23, .inl (g.2.1 1, (24, .inl (fun _ => 0)))), (ad2 24, .inl (g.2.1 0, (24, .inl (fun _ => 0)))), (ad2 25, .inl (g.2.1 1, (24, .inl (fun _ => 0)))), (ad2 26, .inl (g.2.1 0, (8, .inl (fun _ => 0)))), (ad2 27, .inl (g.2.1 0, (256, .inl (fun _ => 0)))), (ad2 28, .inl (g.2.1 0, (192, .inl (fun _ => 0)))), (ad2 29, .inl (g.2.1 0, (192, .inl (fun _ => 0)))), (ad2 30, .inl (g.2.1 0, (576, .inl (fun _ => 0)))), (ad2 31, .inl (g.2.1 0, (24, .inl (fun _ => 0)))), (ad2 32, .inl (g.2.1 0, (60, .inl (fun _ => 0)))), (ad2 33, .inl (g.2.1 0, (60, .inl (fun _ => 0)))), (q2, .inr (8, [.int 0, .int 0, .int 0, .ref (ad2 33), .ref (ad2 32), .ref (ad2 31), .ref (ad2 30), .ref (ad2 29), .ref (ad2 28), .int 0, .ref (ad2 27), .ref (ad2 26), .ref (ad2 25), .ref (ad2 24), .ref (ad2 23), .ref (ad2 22), .ref (ad2 21), .ref (ad2 20), .int 0, .int 0, .int 0, .ref (ad2 19), .ref (ad2 18), .ref (ad2 17), .ref (ad2 16), .ref (ad2 15), .ref (ad2 14), .ref (ad2 13), .ref (ad2 12), .ref (ad2 11), .ref (ad2 10), .ref (ad2 9), .int 0, .ref (ad2 8), .ref (ad2 7), .ref (ad2 6), .ref (ad2 5), .ref (ad2 4), .int 0, .ref (ad2 3), .ref (ad2 2), .int 0, .ref (ad2 1), .ref (ad2 0)])), (ad1 0, .inl (g.2.1 0, (24, .inl (fun _ => 0)))), (ad1 1, .inl (g.2.1 0, (1152, .inl (fun _ => 0)))), (ad1 2, .inl (g.2.1 0, (48, .inl (fun _ => 0)))), (ad1 3, .inl (g.2.1 0, (192, .inl (fun _ => 0)))), (ad1 4, .inr (1, [.ref (ad1 43), .ref (ad1 38), .ref (ad1 3), .ref (ad1 2), .ref (ad1 1), .ref (ad1 0), .int 0, .int 0, .int 0])), (ad1 5, .inl (g.2.1 0, (9, .inl (fun _ => 0)))), (ad1 6, .inl (g.2.1 0, (9, .inl (fun _ => 0)))), (ad1 7 + 1 + 0, .inl (g.2.1 0, (48, .inl (fun _ => 0)))), (ad1 7 + 1 + 1, .inl (g.2.1 0, (48, .inl (fun _ => 0)))), (ad1 7 + 1 + 2, .inl (g.2.1 0, (48, .inl (fun _ => 0)))), (ad1 7 + 1 + 3, .inl (g.2.1 0, (48, .inl (fun _ => 0)))), (ad1 7 + 1 + 4, .inl (g.2.1 0, (48, .inl (fun _ => 0)))), (ad1 7 + 1 + 5, .inl (g.2.1 0, (48, .inl (fun _ => 0)))), (ad1 7 + 1 + 6, .inl (g.2.1 0, (48, .inl (fun _ => 0)))), (ad1 7 + 1 + 7, .inl (g.2.1 0, (48, .inl (fun _ => 0)))), (ad1 7, .inl (g.2.1 3, (8, .inr (.inr (.inr (.inr (fun i => if i < 8 then some (ad1 7 + 1 + i) else none))))))), (ad1 8, .inl (g.2.1 0, (24, .inl (fun _ => 0)))), (ad1 9, .inl (g.2.1 0, (24, .inl (fun _ => 0)))), (ad1 10, .inl (g.2.1 0, (576, .inl (fun _ => 0)))), (ad1 11, .inl (g.2.1 0, (24, .inl (fun _ => 0)))), (ad1 12, .inl (g.2.1 0, (24, .inl (fun _ => 0)))), (ad1 13, .inl (g.2.1 0, (24, .inl (fun _ => 0)))), (ad1 14, .inl (g.2.1 0, (24, .inl (fun _ => 0)))), (ad1 15, .inl (g.2.1 0, (24, .inl (fun _ => 0)))), (ad1 16, .inr (6, [.ref (ad1 15), .ref (ad1 14), .ref (ad1 13)])), (ad1 17, .inr (0, [.int 0, .int 0, .ref (ad1 16), .ref (ad1 12), .ref (ad1 11), .ref (ad1 10)])), (ad1 18, .inl (g.2.1 0, (24, .inl (fun _ => 0)))), (ad1 19, .inl (g.2.1 0, (24, .inl (fun _ => 0)))), (ad1 20, .inl (g.2.1 0, (24, .inl (fun _ => 0)))), (ad1 21, .inr (6, [.ref (ad1 20), .ref (ad1 19), .ref (ad1 18)])), (ad1 22, .inl (g.2.1 0, (3, .inl (fun _ => 0)))), (ad1 23 + 1 + 0, .inl (g.2.1 0, (512, .inl (fun _ => 0)))), (ad1 23 + 1 + 1, .inl (g.2.1 0, (512, .inl (fun _ => 0)))), (ad1 23 + 1 + 2, .inl (g.2.1 0, (512, .inl (fun _ => 0)))), (ad1 23 + 1 + 3, .inl (g.2.1 0, (512, .inl (fun _ => 0)))), (ad1 23 + 1 + 4, .inl (g.2.1 0, (512, .inl (fun _ => 0)))), (ad1 23, .inl (g.2.1 3, (5, .inr (.inr (.inr (.inr (fun i => if i < 5 then some (ad1 23 + 1 + i) else none))))))), (ad1 24, .inr (3, [.ref (ad1 23), .ref (ad1 22), .int 0])), (ad1 25, .inr (5, [.ref (ad1 38), .ref (ad1 4), .ref (ad1 24), .ref (ad1 21), .ref (ad1 17), .ref (ad1 9), .ref (ad1 8), .ref (ad1 7), .int 0, .int 0, .int 0, .int 0, .int 0, .ref (ad1 6), .ref (ad1 5), .int 0])), (ad1 26, .inl (g.2.1 0, (24, .inl (fun _ => 0)))), (ad1 27, .inl (g.2.1 0, (1152, .inl (fun _ => 0)))), (ad1 28, .inl (g.2.1 0, (48, .inl (fun _ => 0)))), (ad1 29, .inl (g.2.1 0, (192, .inl (fun _ => 0)))), (ad1 30, .inr (1, [.ref (ad1 43), .ref (ad1 38), .ref (ad1 29), .ref (ad1 28), .ref (ad1 27), .ref (ad1 26), .int 0, .int 0, .int 0])), (ad1 31, .inl (g.2.1 0, (192, .inl (fun _ => 0)))), (ad1 32, .inl (g.2.1 0, (576, .inl (fun _ => 0)))), (ad1 33, .inl (g.2.1 0, (576, .inl (fun _ => 0)))), (ad1 34, .inl (g.2.1 0, (24, .inl (fun _ => 0)))), (ad1 35, .inl (g.2.1 0, (24, .inl (fun _ => 0)))), (ad1 36, .inl (g.2.1 0, (60, .inl (fun _ => 0)))), (ad1 37, .inl (g.2.1 0, (60, .inl (fun _ => 0)))), (ad1 38, .inr (2, [.int 0, .int 0, .ref (ad1 37), .ref (ad1 36), .ref (ad1 35), .ref (ad1 34), .ref (ad1 33), .ref (ad1 32)])), (ad1 39, .inl (g.2.1 0, (64, .inl (fun _ => 0)))), (ad1 40, .inl (g.2.1 0, (64, .inl (fun _ => 0)))), (ad1 41, .inl (g.2.1 0, (64, .inl (fun _ => 0)))), (ad1 42, .inl (g.2.1 0, (64, .inl (fun _ => 0)))), (ad1 43, .inr (4, [.ref (ad1 42), .ref (ad1 41), .ref (ad1 40), .ref (ad1 39), .int 0])), (q1, .inr (7, [.ref (ad1 43), .ref (ad1 38), .ref (ad1 31), .ref (ad1 30), .ref (ad1 25), .int 0]))]
/-- where the cells lie, the static tables and the script -/
def kAd (ad1 ad2 : Nat → Nat) (q1 q2 q3 b : Nat) (tt : Nat → Nat) : Nat → Nat := fun k => if k < 94 then [q1, ad1 43, ad1 42, ad1 41, ad1 40, ad1 39, ad1 38, ad1 37, ad1 36, ad1 35, ad1 34, ad1 33, ad1 32, ad1 31, ad1 30, ad1 29, ad1 28, ad1 27, ad1 26, ad1 25, ad1 4, ad1 3, ad1 2, ad1 1, ad1 0, ad1 24, ad1 23, ad1 23 + 1 + 0, ad1 23 + 1 + 1, ad1 23 + 1 + 2, ad1 23 + 1 + 3, ad1 23 + 1 + 4, ad1 22, ad1 21, ad1 20, ad1 19, ad1 18, ad1 17, ad1 16, ad1 15, ad1 14, ad1 13, ad1 12, ad1 11, ad1 10, ad1 9, ad1 8, ad1 7, ad1 7 + 1 + 0, ad1 7 + 1 + 1, ad1 7 + 1 + 2, ad1 7 + 1 + 3, ad1 7 + 1 + 4, ad1 7 + 1 + 5, ad1 7 + 1 + 6, ad1 7 + 1 + 7, ad1 6, ad1 5, q2, ad2 33, ad2 32, ad2 31, ad2 30, ad2 29, ad2 28, ad2 27, ad2 26, ad2 25, ad2 24, ad2 23, ad2 22, ad2 21, ad2 20, ad2 19, ad2 18, ad2 17, ad2 16, ad2 15, ad2 14, ad2 13, ad2 12, ad2 11, ad2 10, ad2 9, ad2 8, ad2 7, ad2 6, ad2 5, ad2 4, ad2 3, ad2 2, ad2 1, ad2 0, q3].getD k 0 else if k = 2000 then b else tt (k - 1000)
def kPl : List Nat := [93, 92, 91, 90, 89, 88, 87, 86, 85, 84, 83, 82, 81, 80, 79, 78, 77, 76, 75, 74, 40, 39, 38, 37, 36, 73, 72, 67, 68, 69, 70, 71, 66, 65, 64, 63, 62, 61, 60, 59, 58, 57, 56, 55, 54, 53, 52, 51, 43, 44, 45, 46, 47, 48, 49, 50, 42, 41, 35, 34, 33, 32, 31, 30, 29, 28, 27, 26, 25, 24, 23, 22, 21, 20, 19, 18, 17, 16, 15, 14, 13, 12, 11, 10, 9, 8, 7, 6, 5, 4, 3, 2, 1, 0]
theorem kPl_inj : ∀ i, i < 94 → ∀ j, j < 94 → kPl.getD i 0 = kPl.getD j 0 → i = j := by decide +kernel
theorem kKey {ad1 ad2 : Nat → Nat} {q1 q2 q3 b : Nat} {tt : Nat → Nat} {H : Heap} (hP : va_P g.1 vwCl (kWS g ad1 ad2 q1 q2 q3) H) : ∀ k, k < 94 → (∃ e, (kWS g ad1 ad2 q1 q2 q3)[kPl.getD k 0]? = some (kAd ad1 ad2 q1 q2 q3 b tt k, e)) ∧ va_at g.1 vwCl (kAd ad1 ad2 q1 q2 q3 b tt k, jE (kAd ad1 ad2 q1 q2 q3 b tt) g.2.1 (fun _ => 0) (jShp.getD k (.inl (0, [])))) H := by
  intro k hk
  match k, hk with
  | 0, _ => exact ⟨⟨_, rfl⟩, hP 93 _ rfl⟩
  | 1, _ => exact ⟨⟨_, rfl⟩, hP 92 _ rfl⟩
  | 2, _ => exact ⟨⟨_, rfl⟩, hP 91 _ rfl⟩
  | 3, _ => exact ⟨⟨_, rfl⟩, hP 90 _ rfl⟩
  | 4, _ => exact ⟨⟨_, rfl⟩, hP 89 _ rfl⟩
  | 5, _ => exact ⟨⟨_, rfl⟩, hP 88 _ rfl⟩
  | 6, _ => exact ⟨⟨_, rfl⟩, hP 87 _ rfl⟩
  | 7, _ => exact ⟨⟨_, rfl⟩, hP 86 _ rfl⟩
  | 8, _ => exact ⟨⟨_, rfl⟩, hP 85 _ rfl⟩
  | 9, _ => exact ⟨⟨_, rfl⟩, hP 84 _ rfl⟩
  | 10, _ => exact ⟨⟨_, rfl⟩, hP 83 _ rfl⟩
  | 11, _ => exact ⟨⟨_, rfl⟩, hP 82 _ rfl⟩
  | 12, _ => exact ⟨⟨_, rfl⟩, hP 81 _ rfl⟩
  | 13, _ => exact ⟨⟨_, rfl⟩, hP 80 _ rfl⟩
  | 14, _ => exact ⟨⟨_, rfl⟩, hP 79 _ rfl⟩
  | 15, _ => exact ⟨⟨_, rfl⟩, hP 78 _ rfl⟩
  | 16, _ => exact ⟨⟨_, rfl⟩, hP 77 _ rfl⟩
  | 17, _ => exact ⟨⟨_, rfl⟩, hP 76 _ rfl⟩
  | 18, _ => exact ⟨⟨_, rfl⟩, hP 75 _ rfl⟩
  | 19, _ => exact ⟨⟨_, rfl⟩, hP 74 _ rfl⟩
  | 20, _ => exact ⟨⟨_, rfl⟩, hP 40 _ rfl⟩
  | 21, _ => exact ⟨⟨_, rfl⟩, hP 39 _ rfl⟩
  | 22, _ => exact ⟨⟨_, rfl⟩, hP 38 _ rfl⟩
  | 23, _ => exact ⟨⟨_, rfl⟩, hP 37 _ rfl⟩
  | 24, _ => exact ⟨⟨_, rfl⟩, hP 36 _ rfl⟩
  | 25, _ => exact ⟨⟨_, rfl⟩, hP 73 _ rfl⟩
  | 26, _ => exact ⟨⟨_, rfl⟩, kOut (N := 5) (hP 72 _ rfl) (fun j hj => by
    match j, hj with
    | 0, _ => rfl
    | 1, _ => rfl
    | 2, _ => rfl
    | 3, _ => rfl
    | 4, _ => rfl
    | j + 5, hj => exact absurd hj (by omega))⟩
  | 27, _ => exact ⟨⟨_, rfl⟩, hP 67 _ rfl⟩
  | 28, _ => exact ⟨⟨_, rfl⟩, hP 68 _ rfl⟩
  | 29, _ => exact ⟨⟨_, rfl⟩, hP 69 _ rfl⟩
  | 30, _ => exact ⟨⟨_, rfl⟩, hP 70 _ rfl⟩
  | 31, _ => exact ⟨⟨_, rfl⟩, hP 71 _ rfl⟩
  | 32, _ => exact ⟨⟨_, rfl⟩, hP 66 _ rfl⟩
  | 33, _ => exact ⟨⟨_, rfl⟩, hP 65 _ rfl⟩
  | 34, _ => exact ⟨⟨_, rfl⟩, hP 64 _ rfl⟩
  | 35, _ => exact ⟨⟨_, rfl⟩, hP 63 _ rfl⟩
  | 36, _ => exact ⟨⟨_, rfl⟩, hP 62 _ rfl⟩
  | 37, _ => exact ⟨⟨_, rfl⟩, hP 61 _ rfl⟩
  | 38, _ => exact ⟨⟨_, rfl⟩, hP 60 _ rfl⟩
  | 39, _ => exact ⟨⟨_, rfl⟩, hP 59 _ rfl⟩
  | 40, _ => exact ⟨⟨_, rfl⟩, hP 58 _ rfl⟩
  | 41, _ => exact ⟨⟨_, rfl⟩, hP 57 _ rfl⟩
  | 42, _ => exact ⟨⟨_, rfl⟩, hP 56 _ rfl⟩
  | 43, _ => exact ⟨⟨_, rfl⟩, hP 55 _ rfl⟩
  | 44, _ => exact ⟨⟨_, rfl⟩, hP 54 _ rfl⟩
  | 45, _ => exact ⟨⟨_, rfl⟩, hP 53 _ rfl⟩
  | 46, _ => exact ⟨⟨_, rfl⟩, hP 52 _ rfl⟩
  | 47, _ => exact ⟨⟨_, rfl⟩, kOut (N := 8) (hP 51 _ rfl) (fun j hj => by
    match j, hj with
    | 0, _ => rfl
    | 1, _ => rfl
    | 2, _ => rfl
    | 3, _ => rfl
    | 4, _ => rfl
    | 5, _ => rfl
    | 6, _ => rfl
    | 7, _ => rfl
    | j + 8, hj => exact absurd hj (by omega))⟩
  | 48, _ => exact ⟨⟨_, rfl⟩, hP 43 _ rfl⟩
  | 49, _ => exact ⟨⟨_, rfl⟩, hP 44 _ rfl⟩
  | 50, _ => exact ⟨⟨_, rfl⟩, hP 45 _ rfl⟩
  | 51, _ => exact ⟨⟨_, rfl⟩, hP 46 _ rfl⟩
  | 52, _ => exact ⟨⟨_, rfl⟩, hP 47 _ rfl⟩
  | 53, _ => exact ⟨⟨_, rfl⟩, hP 48 _ rfl⟩
  | 54, _ => exact ⟨⟨_, rfl⟩, hP 49 _ rfl⟩
  | 55, _ => exact ⟨⟨_, rfl⟩, hP 50 _ rfl⟩
  | 56, _ => exact ⟨⟨_, rfl⟩, hP 42 _ rfl⟩
  | 57, _ => exact ⟨⟨_, rfl⟩, hP 41 _ rfl⟩
  | 58, _ => exact ⟨⟨_, rfl⟩, hP 35 _ rfl⟩
  | 59, _ => exact ⟨⟨_, rfl⟩, hP 34 _ rfl⟩
  | 60, _ => exact ⟨⟨_, rfl⟩, hP 33 _ rfl⟩
  | 61, _ => exact ⟨⟨_, rfl⟩, hP 32 _ rfl⟩
  | 62, _ => exact ⟨⟨_, rfl⟩, hP 31 _ rfl⟩
  | 63, _ => exact ⟨⟨_, rfl⟩, hP 30 _ rfl⟩
  | 64, _ => exact ⟨⟨_, rfl⟩, hP 29 _ rfl⟩
  | 65, _ => exact ⟨⟨_, rfl⟩, hP 28 _ rfl⟩
  | 66, _ => exact ⟨⟨_, rfl⟩, hP 27 _ rfl⟩
  | 67, _ => exact ⟨⟨_, rfl⟩, hP 26 _ rfl⟩
  | 68, _ => exact ⟨⟨_, rfl⟩, hP 25 _ rfl⟩
  | 69, _ => exact ⟨⟨_, rfl⟩, hP 24 _ rfl⟩
  | 70, _ => exact ⟨⟨_, rfl⟩, hP 23 _ rfl⟩
  | 71, _ => exact ⟨⟨_, rfl⟩, hP 22 _ rfl⟩
  | 72, _ => exact ⟨⟨_, rfl⟩, hP 21 _ rfl⟩
  | 73, _ => exact ⟨⟨_, rfl⟩, hP 20 _ rfl⟩
  | 74, _ => exact ⟨⟨_, rfl⟩, hP 19 _ rfl⟩
  | 75, _ => exact ⟨⟨_, rfl⟩, hP 18 _ rfl⟩
  | 76, _ => exact ⟨⟨_, rfl⟩, hP 17 _ rfl⟩
  | 77, _ => exact ⟨⟨_, rfl⟩, hP 16 _ rfl⟩
  | 78, _ => exact ⟨⟨_, rfl⟩, hP 15 _ rfl⟩
  | 79, _ => exact ⟨⟨_, rfl⟩, hP 14 _ rfl⟩
  | 80, _ => exact ⟨⟨_, rfl⟩, hP 13 _ rfl⟩
  | 81, _ => exact ⟨⟨_, rfl⟩, hP 12 _ rfl⟩
  | 82, _ => exact ⟨⟨_, rfl⟩, hP 11 _ rfl⟩
  | 83, _ => exact ⟨⟨_, rfl⟩, hP 10 _ rfl⟩
  | 84, _ => exact ⟨⟨_, rfl⟩, hP 9 _ rfl⟩
  | 85, _ => exact ⟨⟨_, rfl⟩, hP 8 _ rfl⟩
  | 86, _ => exact ⟨⟨_, rfl⟩, hP 7 _ rfl⟩
  | 87, _ => exact ⟨⟨_, rfl⟩, hP 6 _ rfl⟩
  | 88, _ => exact ⟨⟨_, rfl⟩, hP 5 _ rfl⟩
  | 89, _ => exact ⟨⟨_, rfl⟩, hP 4 _ rfl⟩
  | 90, _ => exact ⟨⟨_, rfl⟩, hP 3 _ rfl⟩
  | 91, _ => exact ⟨⟨_, rfl⟩, hP 2 _ rfl⟩
  | 92, _ => exact ⟨⟨_, rfl⟩, hP 1 _ rfl⟩
  | 93, _ => exact ⟨⟨_, rfl⟩, hP 0 _ rfl⟩
  | k + 94, hk => exact absurd hk (by omega)
theorem jW_get {ad : Nat → Nat} {cA : Nat → ClassId} {mu : jM} {k : Nat} {q : Nat × va_E} (h : (jW ad cA mu)[k]? = some q) : k < 94 ∧ q = (ad k, jE ad cA (mu k) (jShp.getD k (.inl (0, [])))) := by
  have hl : k < (jW ad cA mu).length := (List.getElem?_eq_some_iff.mp h).1
  have hk : k < 94 := by
    unfold jW at hl
    rw [List.length_map, List.length_range] at hl
    exact hl
  refine ⟨hk, ?_⟩
  unfold jW at h
  rw [List.getElem?_map, List.getElem?_range (by exact hk), Option.map_some] at h
  exact (Option.some.inj h).symm
theorem kJW {ad1 ad2 : Nat → Nat} {q1 q2 q3 b : Nat} {tt : Nat → Nat} {H : Heap} (hP : va_P g.1 vwCl (kWS g ad1 ad2 q1 q2 q3) H) (hD : va_D (kB g) (kWS g ad1 ad2 q1 q2 q3)) : va_P g.1 vwCl (jW (kAd ad1 ad2 q1 q2 q3 b tt) g.2.1 (fun _ _ => 0)) H ∧ ∀ mu, va_D (kB g) (jW (kAd ad1 ad2 q1 q2 q3 b tt) g.2.1 mu) := by
  have key := kKey (b := b) (tt := tt) hP
  refine ⟨fun k q hq => ?_, fun mu => ⟨fun i j p q hi hj e => ?_, fun k q hq => ?_⟩⟩
  · obtain ⟨hk, rfl⟩ := jW_get hq
    exact (key k hk).2
  · obtain ⟨ki, ei⟩ := jW_get hi
    obtain ⟨kj, ej⟩ := jW_get hj
    obtain ⟨e1, h1⟩ := (key i ki).1
    obtain ⟨e2, h2⟩ := (key j kj).1
    rw [ei, ej] at e
    exact kPl_inj i ki j kj (hD.1 _ _ _ _ h1 h2 e)
  · obtain ⟨hk, rfl⟩ := jW_get hq
    obtain ⟨e1, h1⟩ := (key k hk).1
    have h9 := hD.2 _ _ h1
    exact h9
end C85
theorem law_make {l : Launch} {g : kG} {X : jX} {Q : State → Prop} {b : Nat} (hK : kOk l g X cL_law 7 RL 11 600128 7301098) (kq : ∀ q1 q2 q3 ad1 ad2, KJ l g X Q 7 23 [(4, .int 0), (3, .ref q3), (2, .ref q2), (1, .ref q1), (0, .ref b)] [] (kWS g ad1 ad2 q1 q2 q3) 94 32332) : KJ l g X Q 7 0 [(0, .ref b)] [] [] 0 0 := by
  refine KJ_new (ci := 7) (ty := tyX7) (fs := [.null, .null, .null, .null, .null, .int 0]) hK dL_law_0 jc7 tyX7_ok w97 w98 w76 dfX7 (by decide) (by decide) (fun q1 => ?_)
  refine KJ_dup hK dL_law_3 rfl ?_
  refine KJ_init (As := []) (rest := [.ref q1]) hK dL_law_4 (m_X7 l _ q1 []) w99 w100 w76 w101 rfl nmX7_init rfl (by decide) (Nat.le_of_ble_eq_true rfl) rfl (by decide) (by decide) (fun ad1 => ?_)
  refine KJ_astore_n (lv' := [(1, .ref q1), (0, .ref b)]) hK dL_law_7 rfl (by decide) rfl ?_
  refine KJ_new (ci := 8) (ty := tyX8) (fs := [.int 0, .int 0, .int 0, .null, .null, .null, .null, .null, .null, .int 0, .null, .null, .null, .null, .null, .null, .null, .null, .int 0, .int 0, .int 0, .null, .null, .null, .null, .null, .null, .null, .null, .null, .null, .null, .int 0, .null, .null, .null, .null, .null, .int 0, .null, .null, .int 0, .null, .null]) hK dL_law_8 jc8 tyX8_ok w978 w979 w84 dfX8 (by decide) (by decide) (fun q2 => ?_)
  refine KJ_dup hK dL_law_11 rfl ?_
  refine KJ_init (As := []) (rest := [.ref q2]) hK dL_law_12 (m_X8 l _ q2 _) w980 w981 w84 w982 rfl nmX8_init rfl (by decide) (Nat.le_of_ble_eq_true rfl) rfl (by decide) (by decide) (fun ad2 => ?_)
  refine KJ_astore_n (lv' := [(2, .ref q2), (1, .ref q1), (0, .ref b)]) hK dL_law_15 rfl (by decide) rfl ?_
  refine KJ_iconst (v := 1) hK dL_law_16 (by decide) ?_
  refine KJ_newa (ti := 2) (N' := 1) (a0 := (1, .inr (.inl (fun _ => (0 : Int32).toInt64)))) hK dL_law_17 w1405 rfl rfl (fun _ _ h9 => h9) (fun _ => rfl) (by decide) (by decide) (by decide) (by decide) (by decide) (fun q3 => ?_)
  refine KJ_astore_n (lv' := [(3, .ref q3), (2, .ref q2), (1, .ref q1), (0, .ref b)]) hK dL_law_19 rfl (by decide) rfl ?_
  refine KJ_iconst (v := 0) hK dL_law_20 (by decide) ?_
  refine KJ_istore (lv' := [(4, .int 0), (3, .ref q3), (2, .ref q2), (1, .ref q1), (0, .ref b)]) hK dL_law_21 (by decide) rfl ?_
  exact kq q1 q2 q3 ad1 ad2
theorem whole_start {p : Program} {e : Env} {s : State} {m : MethodId} {below : List Frame} {meth : Method} {c : Code} (l : Launch) (hl : l.stackTraces = false) {b L : Nat} {xs : Nat → Int32} (hL : L ≤ 384) (C0 : lw_At p s m meth c b L xs) : W p l e room_1 s m #[Value.ref b] below meth c s.heap [] 0 0 (lw_Z below #[Value.ref b] s) (entryFrame m ([Value.ref b] : List Value).toArray 7) := by
  obtain ⟨hx, hb, hr, hml, hown, hts, hX, hbl, hlocks, hgv⟩ := C0
  obtain ⟨D, cA, tt, hkS, hjS⟩ := st_known (A := #[Value.ref b]) (s := s) (fun w hw => flat_of_before _ hgv w hw) hts
  have hT : ∀ w ∈ jT, w.before #[Value.ref b] s = true := fun w hw => hts w (List.mem_filter.mp hw).1
  have hK : kOk l (D, cA, s.heap.size) ((p, e, room_1, s), (m, #[Value.ref b], below, meth, c)) cL_law 7 RL 11 600128 7301098 := ⟨hx, hb, hml, hown, hT, hkS, Nat.le_refl _, hlocks, ⟨by decide, by decide⟩, ⟨by decide, by decide⟩, rfl⟩
  rw [lg_entry_eq]
  have hLv := lv_entry ([.ref b]) (n := 7) (Nat.le_of_ble_eq_true rfl)
  refine law_make (Q := lw_Z below #[Value.ref b] s) hK (fun q1 q2 q3 ad1 ad2 => ?_) s.heap [] _ (fun k q h => by cases h) ⟨(fun i j p q h => by cases h), (fun k q h => by cases h)⟩ va_S.rf hLv
  intro H locs Ls hP hD hS hLs
  obtain ⟨hP2, hD2⟩ := kJW (b := b) (tt := tt) hP hD
  have hG : jGok (kAd ad1 ad2 q1 q2 q3 b tt, cA, D, s.heap.size) := hD2
  have hJ : jOk l (kAd ad1 ad2 q1 q2 q3 b tt, cA, D, s.heap.size) ((p, e, room_1, s), (m, #[Value.ref b], below, meth, c)) cL_law 7 ret RL 11 600128 := ⟨hx, hb, hml, hown, hT, hjS _ (fun k hk => by
    match k, hk with
    | 0, _ => rfl
    | 1, _ => rfl
    | 2, _ => rfl
    | 3, _ => rfl
    | 4, _ => rfl
    | k + 5, hk => exact absurd hk (by omega)), hG, Nat.le_refl _, hlocks, hr, ⟨by decide, by decide⟩, ⟨by decide, by decide⟩, hl⟩
  have hsc : jScr (kAd ad1 ad2 q1 q2 q3 b tt, cA, D, s.heap.size) ((p, e, room_1, s), (m, #[Value.ref b], below, meth, c)) L xs := ⟨hX, hbl, Nat.not_le.mpr hbl⟩
  have hgo := law_loop (Q := lw_Z below #[Value.ref b] s) hl hG hJ hsc hL (fun mu n x4 v5 v6 hn => by
    intro H1 locs1 Ls1 hP1 hS1 hL1
    refine va_forget (fun q hq => hS1.2.2 q hq) ?_
    refine W.widen (k := 600128) (n := 7301098) hn (by omega) ?_
    exact lw_ret hx hb hr hlocks dL_law_1345) 64 0 10000 (fun _ _ => 0) (.float 0) (.float 0) (by decide) (by decide) gr0
  exact W.widen (k := 10000) (n := 6 * 10000) (by decide) (by decide) (hgo H locs Ls hP2 hS (lv_sub hLs [4, 3, 2, 1, 0] rfl))
