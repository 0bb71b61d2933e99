/-! ===== printed by wip/whole/run_law.py: the law, from its loop head on ===== -/
/-- the law's own script -/
def jScr (G : jG) (X : jX) (L : Nat) (xs : Nat → Int32) : Prop := match X with
  | ((_, _, _, s), _) => va_X (G.1 2000) L xs s s.heap ∧ G.1 2000 < s.heap.size ∧ ¬ jA G (G.1 2000)
section C75
variable {l : Launch} {G : jG} {X : jX} {Q : State → Prop} {cc : ByteArray} {nL pc n hg nc L : Nat} {ret : Option FieldType} {own : String} {ls st : List Value} {mu : jM} {xs : Nat → Int32}
theorem J_xald {i : Int32} (h : jOk l G X cc nL ret own hg nc) (d : decode cc pc = .ok (.iaload, 1)) (hsc : jScr G X L xs) (hi : vp_in i L) (kk : J l G X Q nL (pc + 1) ls (.int (xs i.toNatClampNeg) :: st) mu n) : J l G X Q nL pc ls (.int i :: .ref 2000 :: st) mu n := by
  obtain ⟨⟨p, e, R, s⟩, m, args, below, meth, c⟩ := X
  intro H locs Ls hP hS hL
  exact va_sld h.1 h.2.1 hsc.1 hsc.2.1 hsc.2.2 hS hi d (kk H locs Ls hP hS hL)
theorem J_xlen (h : jOk l G X cc nL ret own hg nc) (d : decode cc pc = .ok (.arraylength, 1)) (hsc : jScr G X L xs) (kk : J l G X Q nL (pc + 1) ls (.int (Int32.ofNat L) :: st) mu n) : J l G X Q nL pc ls (.ref 2000 :: st) mu n := by
  obtain ⟨⟨p, e, R, s⟩, m, args, below, meth, c⟩ := X
  intro H locs Ls hP hS hL
  exact va_slen h.1 h.2.1 hsc.1 hsc.2.1 hsc.2.2 hS d (kk H locs Ls hP hS hL)
end C75

theorem w379 : (Jvm.Cond.methodLink "LockstepNetLaw" (114 : Nat) ({ cls := "LockstepNet", name := "check", desc := "()I" } : Jvm.MethodName)) ∈ jT := jT_in 379 (by decide +kernel) (by decide +kernel)
theorem w380 : (Jvm.Cond.instanceMethod ({ cls := "LockstepNet", name := "check", desc := "()I" } : Jvm.MethodName)) ∈ jT := jT_in 380 (by decide +kernel) (by decide +kernel)
theorem w381 : (Jvm.Cond.selects "LockstepNet" ({ cls := "LockstepNet", name := "check", desc := "()I" } : Jvm.MethodName) ({ cls := "LockstepNet", name := "check", desc := "()I" } : Jvm.MethodName)) ∈ jT := jT_in 381 (by decide +kernel) (by decide +kernel)
theorem w382 : (Jvm.Cond.code ({ cls := "LockstepNet", name := "check", desc := "()I" } : Jvm.MethodName) prog_1_method_7_code (1 : Nat) (Option.some Jvm.ClassFile.FieldType.int)) ∈ jT := jT_in 382 (by decide +kernel) (by decide +kernel)
theorem w406 : (Jvm.Cond.methodLink "LockstepNetLaw" (138 : Nat) ({ cls := "LockstepNet", name := "letters", desc := "()I" } : Jvm.MethodName)) ∈ jT := jT_in 406 (by decide +kernel) (by decide +kernel)
theorem w407 : (Jvm.Cond.instanceMethod ({ cls := "LockstepNet", name := "letters", desc := "()I" } : Jvm.MethodName)) ∈ jT := jT_in 407 (by decide +kernel) (by decide +kernel)
theorem w408 : (Jvm.Cond.selects "LockstepNet" ({ cls := "LockstepNet", name := "letters", desc := "()I" } : Jvm.MethodName) ({ cls := "LockstepNet", name := "letters", desc := "()I" } : Jvm.MethodName)) ∈ jT := jT_in 408 (by decide +kernel) (by decide +kernel)
theorem w409 : (Jvm.Cond.code ({ cls := "LockstepNet", name := "letters", desc := "()I" } : Jvm.MethodName) prog_1_method_14_code (1 : Nat) (Option.some Jvm.ClassFile.FieldType.int)) ∈ jT := jT_in 409 (by decide +kernel) (by decide +kernel)
theorem w1118 : (Jvm.Cond.methodLink "LockstepNetLaw" (95 : Nat) ({ cls := "LockstepNetModel", name := "thrown", desc := "()I" } : Jvm.MethodName)) ∈ jT := jT_in 1118 (by decide +kernel) (by decide +kernel)
theorem w1119 : (Jvm.Cond.instanceMethod ({ cls := "LockstepNetModel", name := "thrown", desc := "()I" } : Jvm.MethodName)) ∈ jT := jT_in 1119 (by decide +kernel) (by decide +kernel)
theorem w1120 : (Jvm.Cond.selects "LockstepNetModel" ({ cls := "LockstepNetModel", name := "thrown", desc := "()I" } : Jvm.MethodName) ({ cls := "LockstepNetModel", name := "thrown", desc := "()I" } : Jvm.MethodName)) ∈ jT := jT_in 1120 (by decide +kernel) (by decide +kernel)
theorem w1121 : (Jvm.Cond.code ({ cls := "LockstepNetModel", name := "thrown", desc := "()I" } : Jvm.MethodName) prog_10_method_2_code (1 : Nat) (Option.some Jvm.ClassFile.FieldType.int)) ∈ jT := jT_in 1121 (by decide +kernel) (by decide +kernel)
theorem w1122 : (Jvm.Cond.methodLink "LockstepNetLaw" (94 : Nat) ({ cls := "LockstepNetModel", name := "net", desc := "(I)V" } : Jvm.MethodName)) ∈ jT := jT_in 1122 (by decide +kernel) (by decide +kernel)
theorem w1123 : (Jvm.Cond.instanceMethod ({ cls := "LockstepNetModel", name := "net", desc := "(I)V" } : Jvm.MethodName)) ∈ jT := jT_in 1123 (by decide +kernel) (by decide +kernel)
theorem w1124 : (Jvm.Cond.selects "LockstepNetModel" ({ cls := "LockstepNetModel", name := "net", desc := "(I)V" } : Jvm.MethodName) ({ cls := "LockstepNetModel", name := "net", desc := "(I)V" } : Jvm.MethodName)) ∈ jT := jT_in 1124 (by decide +kernel) (by decide +kernel)
theorem w1125 : (Jvm.Cond.code ({ cls := "LockstepNetModel", name := "net", desc := "(I)V" } : Jvm.MethodName) prog_10_method_4_code (3 : Nat) (Option.none : Option Jvm.ClassFile.FieldType)) ∈ jT := jT_in 1125 (by decide +kernel) (by decide +kernel)
theorem w1126 : (Jvm.Cond.methodLink "LockstepNetLaw" (102 : Nat) ({ cls := "LockstepNetModel", name := "link", desc := "(II)I" } : Jvm.MethodName)) ∈ jT := jT_in 1126 (by decide +kernel) (by decide +kernel)
theorem w1127 : (Jvm.Cond.instanceMethod ({ cls := "LockstepNetModel", name := "link", desc := "(II)I" } : Jvm.MethodName)) ∈ jT := jT_in 1127 (by decide +kernel) (by decide +kernel)
theorem w1128 : (Jvm.Cond.selects "LockstepNetModel" ({ cls := "LockstepNetModel", name := "link", desc := "(II)I" } : Jvm.MethodName) ({ cls := "LockstepNetModel", name := "link", desc := "(II)I" } : Jvm.MethodName)) ∈ jT := jT_in 1128 (by decide +kernel) (by decide +kernel)
theorem w1129 : (Jvm.Cond.code ({ cls := "LockstepNetModel", name := "link", desc := "(II)I" } : Jvm.MethodName) prog_10_method_7_code (3 : Nat) (Option.some Jvm.ClassFile.FieldType.int)) ∈ jT := jT_in 1129 (by decide +kernel) (by decide +kernel)
theorem w1142 : (Jvm.Cond.methodLink "LockstepNetLaw" (106 : Nat) ({ cls := "LockstepNetModel", name := "word", desc := "(IIIII)I" } : Jvm.MethodName)) ∈ jT := jT_in 1142 (by decide +kernel) (by decide +kernel)
theorem w1143 : (Jvm.Cond.instanceMethod ({ cls := "LockstepNetModel", name := "word", desc := "(IIIII)I" } : Jvm.MethodName)) ∈ jT := jT_in 1143 (by decide +kernel) (by decide +kernel)
theorem w1144 : (Jvm.Cond.selects "LockstepNetModel" ({ cls := "LockstepNetModel", name := "word", desc := "(IIIII)I" } : Jvm.MethodName) ({ cls := "LockstepNetModel", name := "word", desc := "(IIIII)I" } : Jvm.MethodName)) ∈ jT := jT_in 1144 (by decide +kernel) (by decide +kernel)
theorem w1145 : (Jvm.Cond.code ({ cls := "LockstepNetModel", name := "word", desc := "(IIIII)I" } : Jvm.MethodName) prog_10_method_10_code (6 : Nat) (Option.some Jvm.ClassFile.FieldType.int)) ∈ jT := jT_in 1145 (by decide +kernel) (by decide +kernel)
theorem w1150 : (Jvm.Cond.methodLink "LockstepNetLaw" (110 : Nat) ({ cls := "LockstepNetModel", name := "builtin", desc := "(I)I" } : Jvm.MethodName)) ∈ jT := jT_in 1150 (by decide +kernel) (by decide +kernel)
theorem w1151 : (Jvm.Cond.instanceMethod ({ cls := "LockstepNetModel", name := "builtin", desc := "(I)I" } : Jvm.MethodName)) ∈ jT := jT_in 1151 (by decide +kernel) (by decide +kernel)
theorem w1152 : (Jvm.Cond.selects "LockstepNetModel" ({ cls := "LockstepNetModel", name := "builtin", desc := "(I)I" } : Jvm.MethodName) ({ cls := "LockstepNetModel", name := "builtin", desc := "(I)I" } : Jvm.MethodName)) ∈ jT := jT_in 1152 (by decide +kernel) (by decide +kernel)
theorem w1153 : (Jvm.Cond.code ({ cls := "LockstepNetModel", name := "builtin", desc := "(I)I" } : Jvm.MethodName) prog_10_method_18_code (2 : Nat) (Option.some Jvm.ClassFile.FieldType.int)) ∈ jT := jT_in 1153 (by decide +kernel) (by decide +kernel)
theorem w1178 : (Jvm.Cond.methodLink "LockstepNetLaw" (113 : Nat) ({ cls := "LockstepNetModel", name := "cutAt", desc := "(I)V" } : Jvm.MethodName)) ∈ jT := jT_in 1178 (by decide +kernel) (by decide +kernel)
theorem w1179 : (Jvm.Cond.instanceMethod ({ cls := "LockstepNetModel", name := "cutAt", desc := "(I)V" } : Jvm.MethodName)) ∈ jT := jT_in 1179 (by decide +kernel) (by decide +kernel)
theorem w1180 : (Jvm.Cond.selects "LockstepNetModel" ({ cls := "LockstepNetModel", name := "cutAt", desc := "(I)V" } : Jvm.MethodName) ({ cls := "LockstepNetModel", name := "cutAt", desc := "(I)V" } : Jvm.MethodName)) ∈ jT := jT_in 1180 (by decide +kernel) (by decide +kernel)
theorem w1181 : (Jvm.Cond.code ({ cls := "LockstepNetModel", name := "cutAt", desc := "(I)V" } : Jvm.MethodName) prog_10_method_19_code (2 : Nat) (Option.none : Option Jvm.ClassFile.FieldType)) ∈ jT := jT_in 1181 (by decide +kernel) (by decide +kernel)
theorem w1182 : (Jvm.Cond.methodLink "LockstepNetLaw" (117 : Nat) ({ cls := "LockstepNetModel", name := "check", desc := "()I" } : Jvm.MethodName)) ∈ jT := jT_in 1182 (by decide +kernel) (by decide +kernel)
theorem w1183 : (Jvm.Cond.instanceMethod ({ cls := "LockstepNetModel", name := "check", desc := "()I" } : Jvm.MethodName)) ∈ jT := jT_in 1183 (by decide +kernel) (by decide +kernel)
theorem w1184 : (Jvm.Cond.selects "LockstepNetModel" ({ cls := "LockstepNetModel", name := "check", desc := "()I" } : Jvm.MethodName) ({ cls := "LockstepNetModel", name := "check", desc := "()I" } : Jvm.MethodName)) ∈ jT := jT_in 1184 (by decide +kernel) (by decide +kernel)
theorem w1185 : (Jvm.Cond.code ({ cls := "LockstepNetModel", name := "check", desc := "()I" } : Jvm.MethodName) prog_10_method_27_code (1 : Nat) (Option.some Jvm.ClassFile.FieldType.int)) ∈ jT := jT_in 1185 (by decide +kernel) (by decide +kernel)
theorem w1211 : (Jvm.Cond.methodLink "LockstepNetLaw" (121 : Nat) ({ cls := "LockstepNetModel", name := "input", desc := "(III)V" } : Jvm.MethodName)) ∈ jT := jT_in 1211 (by decide +kernel) (by decide +kernel)
theorem w1212 : (Jvm.Cond.instanceMethod ({ cls := "LockstepNetModel", name := "input", desc := "(III)V" } : Jvm.MethodName)) ∈ jT := jT_in 1212 (by decide +kernel) (by decide +kernel)
theorem w1213 : (Jvm.Cond.selects "LockstepNetModel" ({ cls := "LockstepNetModel", name := "input", desc := "(III)V" } : Jvm.MethodName) ({ cls := "LockstepNetModel", name := "input", desc := "(III)V" } : Jvm.MethodName)) ∈ jT := jT_in 1213 (by decide +kernel) (by decide +kernel)
theorem w1214 : (Jvm.Cond.code ({ cls := "LockstepNetModel", name := "input", desc := "(III)V" } : Jvm.MethodName) prog_10_method_28_code (4 : Nat) (Option.none : Option Jvm.ClassFile.FieldType)) ∈ jT := jT_in 1214 (by decide +kernel) (by decide +kernel)
theorem w1215 : (Jvm.Cond.methodLink "LockstepNetLaw" (124 : Nat) ({ cls := "LockstepNetModel", name := "lockstep", desc := "(I)V" } : Jvm.MethodName)) ∈ jT := jT_in 1215 (by decide +kernel) (by decide +kernel)
theorem w1216 : (Jvm.Cond.instanceMethod ({ cls := "LockstepNetModel", name := "lockstep", desc := "(I)V" } : Jvm.MethodName)) ∈ jT := jT_in 1216 (by decide +kernel) (by decide +kernel)
theorem w1217 : (Jvm.Cond.selects "LockstepNetModel" ({ cls := "LockstepNetModel", name := "lockstep", desc := "(I)V" } : Jvm.MethodName) ({ cls := "LockstepNetModel", name := "lockstep", desc := "(I)V" } : Jvm.MethodName)) ∈ jT := jT_in 1217 (by decide +kernel) (by decide +kernel)
theorem w1218 : (Jvm.Cond.code ({ cls := "LockstepNetModel", name := "lockstep", desc := "(I)V" } : Jvm.MethodName) prog_10_method_35_code (3 : Nat) (Option.none : Option Jvm.ClassFile.FieldType)) ∈ jT := jT_in 1218 (by decide +kernel) (by decide +kernel)
theorem w1249 : (Jvm.Cond.methodLink "LockstepNetLaw" (127 : Nat) ({ cls := "LockstepNetModel", name := "plain", desc := "(II)I" } : Jvm.MethodName)) ∈ jT := jT_in 1249 (by decide +kernel) (by decide +kernel)
theorem w1250 : (Jvm.Cond.instanceMethod ({ cls := "LockstepNetModel", name := "plain", desc := "(II)I" } : Jvm.MethodName)) ∈ jT := jT_in 1250 (by decide +kernel) (by decide +kernel)
theorem w1251 : (Jvm.Cond.selects "LockstepNetModel" ({ cls := "LockstepNetModel", name := "plain", desc := "(II)I" } : Jvm.MethodName) ({ cls := "LockstepNetModel", name := "plain", desc := "(II)I" } : Jvm.MethodName)) ∈ jT := jT_in 1251 (by decide +kernel) (by decide +kernel)
theorem w1252 : (Jvm.Cond.code ({ cls := "LockstepNetModel", name := "plain", desc := "(II)I" } : Jvm.MethodName) prog_10_method_37_code (3 : Nat) (Option.some Jvm.ClassFile.FieldType.int)) ∈ jT := jT_in 1252 (by decide +kernel) (by decide +kernel)
theorem w1253 : (Jvm.Cond.methodLink "LockstepNetLaw" (130 : Nat) ({ cls := "LockstepNetModel", name := "prepare", desc := "(II)I" } : Jvm.MethodName)) ∈ jT := jT_in 1253 (by decide +kernel) (by decide +kernel)
theorem w1254 : (Jvm.Cond.instanceMethod ({ cls := "LockstepNetModel", name := "prepare", desc := "(II)I" } : Jvm.MethodName)) ∈ jT := jT_in 1254 (by decide +kernel) (by decide +kernel)
theorem w1255 : (Jvm.Cond.selects "LockstepNetModel" ({ cls := "LockstepNetModel", name := "prepare", desc := "(II)I" } : Jvm.MethodName) ({ cls := "LockstepNetModel", name := "prepare", desc := "(II)I" } : Jvm.MethodName)) ∈ jT := jT_in 1255 (by decide +kernel) (by decide +kernel)
theorem w1256 : (Jvm.Cond.code ({ cls := "LockstepNetModel", name := "prepare", desc := "(II)I" } : Jvm.MethodName) prog_10_method_44_code (4 : Nat) (Option.some Jvm.ClassFile.FieldType.int)) ∈ jT := jT_in 1256 (by decide +kernel) (by decide +kernel)
theorem w1285 : (Jvm.Cond.methodLink "LockstepNetLaw" (134 : Nat) ({ cls := "LockstepNetModel", name := "release", desc := "()V" } : Jvm.MethodName)) ∈ jT := jT_in 1285 (by decide +kernel) (by decide +kernel)
theorem w1286 : (Jvm.Cond.instanceMethod ({ cls := "LockstepNetModel", name := "release", desc := "()V" } : Jvm.MethodName)) ∈ jT := jT_in 1286 (by decide +kernel) (by decide +kernel)
theorem w1287 : (Jvm.Cond.selects "LockstepNetModel" ({ cls := "LockstepNetModel", name := "release", desc := "()V" } : Jvm.MethodName) ({ cls := "LockstepNetModel", name := "release", desc := "()V" } : Jvm.MethodName)) ∈ jT := jT_in 1287 (by decide +kernel) (by decide +kernel)
theorem w1288 : (Jvm.Cond.code ({ cls := "LockstepNetModel", name := "release", desc := "()V" } : Jvm.MethodName) prog_10_method_62_code (1 : Nat) (Option.none : Option Jvm.ClassFile.FieldType)) ∈ jT := jT_in 1288 (by decide +kernel) (by decide +kernel)
theorem w1289 : (Jvm.Cond.methodLink "LockstepNetLaw" (137 : Nat) ({ cls := "LockstepNetModel", name := "stopAt", desc := "(I)V" } : Jvm.MethodName)) ∈ jT := jT_in 1289 (by decide +kernel) (by decide +kernel)
theorem w1290 : (Jvm.Cond.instanceMethod ({ cls := "LockstepNetModel", name := "stopAt", desc := "(I)V" } : Jvm.MethodName)) ∈ jT := jT_in 1290 (by decide +kernel) (by decide +kernel)
theorem w1291 : (Jvm.Cond.selects "LockstepNetModel" ({ cls := "LockstepNetModel", name := "stopAt", desc := "(I)V" } : Jvm.MethodName) ({ cls := "LockstepNetModel", name := "stopAt", desc := "(I)V" } : Jvm.MethodName)) ∈ jT := jT_in 1291 (by decide +kernel) (by decide +kernel)
theorem w1292 : (Jvm.Cond.code ({ cls := "LockstepNetModel", name := "stopAt", desc := "(I)V" } : Jvm.MethodName) prog_10_method_63_code (3 : Nat) (Option.none : Option Jvm.ClassFile.FieldType)) ∈ jT := jT_in 1292 (by decide +kernel) (by decide +kernel)
theorem w1360 : (Jvm.Cond.methodLink "LockstepNetLaw" (141 : Nat) ({ cls := "LockstepNetModel", name := "letters", desc := "()I" } : Jvm.MethodName)) ∈ jT := jT_in 1360 (by decide +kernel) (by decide +kernel)
theorem w1361 : (Jvm.Cond.instanceMethod ({ cls := "LockstepNetModel", name := "letters", desc := "()I" } : Jvm.MethodName)) ∈ jT := jT_in 1361 (by decide +kernel) (by decide +kernel)
theorem w1362 : (Jvm.Cond.selects "LockstepNetModel" ({ cls := "LockstepNetModel", name := "letters", desc := "()I" } : Jvm.MethodName) ({ cls := "LockstepNetModel", name := "letters", desc := "()I" } : Jvm.MethodName)) ∈ jT := jT_in 1362 (by decide +kernel) (by decide +kernel)
theorem w1363 : (Jvm.Cond.code ({ cls := "LockstepNetModel", name := "letters", desc := "()I" } : Jvm.MethodName) prog_10_method_64_code (1 : Nat) (Option.some Jvm.ClassFile.FieldType.int)) ∈ jT := jT_in 1363 (by decide +kernel) (by decide +kernel)
theorem w1364 : (Jvm.Cond.methodLink "LockstepNetLaw" (144 : Nat) ({ cls := "LockstepNetModel", name := "letter", desc := "(II)I" } : Jvm.MethodName)) ∈ jT := jT_in 1364 (by decide +kernel) (by decide +kernel)
theorem w1365 : (Jvm.Cond.instanceMethod ({ cls := "LockstepNetModel", name := "letter", desc := "(II)I" } : Jvm.MethodName)) ∈ jT := jT_in 1365 (by decide +kernel) (by decide +kernel)
theorem w1366 : (Jvm.Cond.selects "LockstepNetModel" ({ cls := "LockstepNetModel", name := "letter", desc := "(II)I" } : Jvm.MethodName) ({ cls := "LockstepNetModel", name := "letter", desc := "(II)I" } : Jvm.MethodName)) ∈ jT := jT_in 1366 (by decide +kernel) (by decide +kernel)
theorem w1367 : (Jvm.Cond.code ({ cls := "LockstepNetModel", name := "letter", desc := "(II)I" } : Jvm.MethodName) prog_10_method_65_code (3 : Nat) (Option.some Jvm.ClassFile.FieldType.int)) ∈ jT := jT_in 1367 (by decide +kernel) (by decide +kernel)
theorem w1368 : (Jvm.Cond.methodLink "LockstepNetLaw" (147 : Nat) ({ cls := "LockstepNetModel", name := "deliver", desc := "(I)I" } : Jvm.MethodName)) ∈ jT := jT_in 1368 (by decide +kernel) (by decide +kernel)
theorem w1369 : (Jvm.Cond.instanceMethod ({ cls := "LockstepNetModel", name := "deliver", desc := "(I)I" } : Jvm.MethodName)) ∈ jT := jT_in 1369 (by decide +kernel) (by decide +kernel)
theorem w1370 : (Jvm.Cond.selects "LockstepNetModel" ({ cls := "LockstepNetModel", name := "deliver", desc := "(I)I" } : Jvm.MethodName) ({ cls := "LockstepNetModel", name := "deliver", desc := "(I)I" } : Jvm.MethodName)) ∈ jT := jT_in 1370 (by decide +kernel) (by decide +kernel)
theorem w1371 : (Jvm.Cond.code ({ cls := "LockstepNetModel", name := "deliver", desc := "(I)I" } : Jvm.MethodName) prog_10_method_67_code (2 : Nat) (Option.some Jvm.ClassFile.FieldType.int)) ∈ jT := jT_in 1371 (by decide +kernel) (by decide +kernel)
theorem w1376 : (Jvm.Cond.methodLink "LockstepNetLaw" (151 : Nat) ({ cls := "LockstepNetModel", name := "deliverAll", desc := "(III)I" } : Jvm.MethodName)) ∈ jT := jT_in 1376 (by decide +kernel) (by decide +kernel)
theorem w1377 : (Jvm.Cond.instanceMethod ({ cls := "LockstepNetModel", name := "deliverAll", desc := "(III)I" } : Jvm.MethodName)) ∈ jT := jT_in 1377 (by decide +kernel) (by decide +kernel)
theorem w1378 : (Jvm.Cond.selects "LockstepNetModel" ({ cls := "LockstepNetModel", name := "deliverAll", desc := "(III)I" } : Jvm.MethodName) ({ cls := "LockstepNetModel", name := "deliverAll", desc := "(III)I" } : Jvm.MethodName)) ∈ jT := jT_in 1378 (by decide +kernel) (by decide +kernel)
theorem w1379 : (Jvm.Cond.code ({ cls := "LockstepNetModel", name := "deliverAll", desc := "(III)I" } : Jvm.MethodName) prog_10_method_68_code (7 : Nat) (Option.some Jvm.ClassFile.FieldType.int)) ∈ jT := jT_in 1379 (by decide +kernel) (by decide +kernel)
theorem w1381 : (Jvm.Cond.methodLink "LockstepNetLaw" (154 : Nat) ({ cls := "LockstepNetModel", name := "switchTo", desc := "(I)I" } : Jvm.MethodName)) ∈ jT := jT_in 1381 (by decide +kernel) (by decide +kernel)
theorem w1382 : (Jvm.Cond.instanceMethod ({ cls := "LockstepNetModel", name := "switchTo", desc := "(I)I" } : Jvm.MethodName)) ∈ jT := jT_in 1382 (by decide +kernel) (by decide +kernel)
theorem w1383 : (Jvm.Cond.selects "LockstepNetModel" ({ cls := "LockstepNetModel", name := "switchTo", desc := "(I)I" } : Jvm.MethodName) ({ cls := "LockstepNetModel", name := "switchTo", desc := "(I)I" } : Jvm.MethodName)) ∈ jT := jT_in 1383 (by decide +kernel) (by decide +kernel)
theorem w1384 : (Jvm.Cond.code ({ cls := "LockstepNetModel", name := "switchTo", desc := "(I)I" } : Jvm.MethodName) prog_10_method_69_code (4 : Nat) (Option.some Jvm.ClassFile.FieldType.int)) ∈ jT := jT_in 1384 (by decide +kernel) (by decide +kernel)
theorem w1385 : (Jvm.Cond.methodLink "LockstepNetLaw" (157 : Nat) ({ cls := "LockstepNetModel", name := "roundOf", desc := "(I)I" } : Jvm.MethodName)) ∈ jT := jT_in 1385 (by decide +kernel) (by decide +kernel)
theorem w1386 : (Jvm.Cond.instanceMethod ({ cls := "LockstepNetModel", name := "roundOf", desc := "(I)I" } : Jvm.MethodName)) ∈ jT := jT_in 1386 (by decide +kernel) (by decide +kernel)
theorem w1387 : (Jvm.Cond.selects "LockstepNetModel" ({ cls := "LockstepNetModel", name := "roundOf", desc := "(I)I" } : Jvm.MethodName) ({ cls := "LockstepNetModel", name := "roundOf", desc := "(I)I" } : Jvm.MethodName)) ∈ jT := jT_in 1387 (by decide +kernel) (by decide +kernel)
theorem w1388 : (Jvm.Cond.code ({ cls := "LockstepNetModel", name := "roundOf", desc := "(I)I" } : Jvm.MethodName) prog_10_method_70_code (2 : Nat) (Option.some Jvm.ClassFile.FieldType.int)) ∈ jT := jT_in 1388 (by decide +kernel) (by decide +kernel)
theorem w1389 : (Jvm.Cond.methodLink "LockstepNetLaw" (160 : Nat) ({ cls := "LockstepNetModel", name := "value", desc := "(II)I" } : Jvm.MethodName)) ∈ jT := jT_in 1389 (by decide +kernel) (by decide +kernel)
theorem w1390 : (Jvm.Cond.instanceMethod ({ cls := "LockstepNetModel", name := "value", desc := "(II)I" } : Jvm.MethodName)) ∈ jT := jT_in 1390 (by decide +kernel) (by decide +kernel)
theorem w1391 : (Jvm.Cond.selects "LockstepNetModel" ({ cls := "LockstepNetModel", name := "value", desc := "(II)I" } : Jvm.MethodName) ({ cls := "LockstepNetModel", name := "value", desc := "(II)I" } : Jvm.MethodName)) ∈ jT := jT_in 1391 (by decide +kernel) (by decide +kernel)
theorem w1392 : (Jvm.Cond.code ({ cls := "LockstepNetModel", name := "value", desc := "(II)I" } : Jvm.MethodName) prog_10_method_71_code (3 : Nat) (Option.some Jvm.ClassFile.FieldType.int)) ∈ jT := jT_in 1392 (by decide +kernel) (by decide +kernel)
theorem w1393 : (Jvm.Cond.methodLink "LockstepNetLaw" (163 : Nat) ({ cls := "LockstepNetModel", name := "place", desc := "(II)I" } : Jvm.MethodName)) ∈ jT := jT_in 1393 (by decide +kernel) (by decide +kernel)
theorem w1394 : (Jvm.Cond.instanceMethod ({ cls := "LockstepNetModel", name := "place", desc := "(II)I" } : Jvm.MethodName)) ∈ jT := jT_in 1394 (by decide +kernel) (by decide +kernel)
theorem w1395 : (Jvm.Cond.selects "LockstepNetModel" ({ cls := "LockstepNetModel", name := "place", desc := "(II)I" } : Jvm.MethodName) ({ cls := "LockstepNetModel", name := "place", desc := "(II)I" } : Jvm.MethodName)) ∈ jT := jT_in 1395 (by decide +kernel) (by decide +kernel)
theorem w1396 : (Jvm.Cond.code ({ cls := "LockstepNetModel", name := "place", desc := "(II)I" } : Jvm.MethodName) prog_10_method_72_code (3 : Nat) (Option.some Jvm.ClassFile.FieldType.int)) ∈ jT := jT_in 1396 (by decide +kernel) (by decide +kernel)
theorem w1397 : (Jvm.Cond.methodLink "LockstepNetLaw" (166 : Nat) ({ cls := "LockstepNetModel", name := "chosen", desc := "(II)I" } : Jvm.MethodName)) ∈ jT := jT_in 1397 (by decide +kernel) (by decide +kernel)
theorem w1398 : (Jvm.Cond.instanceMethod ({ cls := "LockstepNetModel", name := "chosen", desc := "(II)I" } : Jvm.MethodName)) ∈ jT := jT_in 1398 (by decide +kernel) (by decide +kernel)
theorem w1399 : (Jvm.Cond.selects "LockstepNetModel" ({ cls := "LockstepNetModel", name := "chosen", desc := "(II)I" } : Jvm.MethodName) ({ cls := "LockstepNetModel", name := "chosen", desc := "(II)I" } : Jvm.MethodName)) ∈ jT := jT_in 1399 (by decide +kernel) (by decide +kernel)
theorem w1400 : (Jvm.Cond.code ({ cls := "LockstepNetModel", name := "chosen", desc := "(II)I" } : Jvm.MethodName) prog_10_method_73_code (3 : Nat) (Option.some Jvm.ClassFile.FieldType.int)) ∈ jT := jT_in 1400 (by decide +kernel) (by decide +kernel)
theorem w1401 : (Jvm.Cond.methodLink "LockstepNetLaw" (169 : Nat) ({ cls := "LockstepNetModel", name := "count", desc := "(I)I" } : Jvm.MethodName)) ∈ jT := jT_in 1401 (by decide +kernel) (by decide +kernel)
theorem w1402 : (Jvm.Cond.instanceMethod ({ cls := "LockstepNetModel", name := "count", desc := "(I)I" } : Jvm.MethodName)) ∈ jT := jT_in 1402 (by decide +kernel) (by decide +kernel)
theorem w1403 : (Jvm.Cond.selects "LockstepNetModel" ({ cls := "LockstepNetModel", name := "count", desc := "(I)I" } : Jvm.MethodName) ({ cls := "LockstepNetModel", name := "count", desc := "(I)I" } : Jvm.MethodName)) ∈ jT := jT_in 1403 (by decide +kernel) (by decide +kernel)
theorem w1404 : (Jvm.Cond.code ({ cls := "LockstepNetModel", name := "count", desc := "(I)I" } : Jvm.MethodName) prog_10_method_74_code (4 : Nat) (Option.some Jvm.ClassFile.FieldType.int)) ∈ jT := jT_in 1404 (by decide +kernel) (by decide +kernel)
theorem nmX7_check : jNm yX7_check 0 := by unfold jNm; decide +kernel
theorem nmX7_letters : jNm yX7_letters 0 := by unfold jNm; decide +kernel
theorem nmX8_builtin : jNm yX8_builtin 1 := by unfold jNm; decide +kernel
theorem nmX8_check : jNm yX8_check 0 := by unfold jNm; decide +kernel
theorem nmX8_chosen : jNm yX8_chosen 2 := by unfold jNm; decide +kernel
theorem nmX8_count : jNm yX8_count 1 := by unfold jNm; decide +kernel
theorem nmX8_cutAt : jNm yX8_cutAt 1 := by unfold jNm; decide +kernel
theorem nmX8_deliver : jNm yX8_deliver 1 := by unfold jNm; decide +kernel
theorem nmX8_deliverAll : jNm yX8_deliverAll 3 := by unfold jNm; decide +kernel
theorem nmX8_input : jNm yX8_input 3 := by unfold jNm; decide +kernel
theorem nmX8_letter : jNm yX8_letter 2 := by unfold jNm; decide +kernel
theorem nmX8_letters : jNm yX8_letters 0 := by unfold jNm; decide +kernel
theorem nmX8_link : jNm yX8_link 2 := by unfold jNm; decide +kernel
theorem nmX8_lockstep : jNm yX8_lockstep 1 := by unfold jNm; decide +kernel
theorem nmX8_net : jNm yX8_net 1 := by unfold jNm; decide +kernel
theorem nmX8_place : jNm yX8_place 2 := by unfold jNm; decide +kernel
theorem nmX8_plain : jNm yX8_plain 2 := by unfold jNm; decide +kernel
theorem nmX8_prepare : jNm yX8_prepare 2 := by unfold jNm; decide +kernel
theorem nmX8_release : jNm yX8_release 0 := by unfold jNm; decide +kernel
theorem nmX8_roundOf : jNm yX8_roundOf 1 := by unfold jNm; decide +kernel
theorem nmX8_stopAt : jNm yX8_stopAt 1 := by unfold jNm; decide +kernel
theorem nmX8_switchTo : jNm yX8_switchTo 1 := by unfold jNm; decide +kernel
theorem nmX8_thrown : jNm yX8_thrown 0 := by unfold jNm; decide +kernel
theorem nmX8_value : jNm yX8_value 2 := by unfold jNm; decide +kernel
theorem nmX8_word : jNm yX8_word 5 := by unfold jNm; decide +kernel
theorem cc_6 (x : Int32) : x + Int32.ofInt 6 = x + 6 := by rw [show Int32.ofInt 6 = (6 : Int32) by decide]
/-! LockstepNetLaw.law([I)Z -/
theorem rL_law_23 {l : Launch} {G : jG} {X : jX} {Q : State → Prop} {n hg nc : Nat} {ret : Option FieldType} {mu : jM} {L : Nat} {xs : Nat → Int32} {x4 : Int32} {v5 : Value} {v6 : Value} (h : jOk l G X cL_law 7 ret RL hg nc) (hsc : jScr G X L xs) (s3 : ¬ ((Int32.ofNat L) - 6) < x4 → vp_in x4 L)
    (k2 : ((Int32.ofNat L) - 6) < x4 → J l G X Q 7 1345 [.ref 2000, .ref 0, .ref 58, .ref 93, .int x4, v5, v6] [.int 1] mu n)
    (k4 : ¬ ((Int32.ofNat L) - 6) < x4 → J l G X Q 7 40 [.ref 2000, .ref 0, .ref 58, .ref 93, .int x4, v5, v6] [.int ((xs (x4).toNatClampNeg) &&& 31)] mu n) :
    J l G X Q 7 23 [.ref 2000, .ref 0, .ref 58, .ref 93, .int x4, v5, v6] [] mu n := by
  refine J_iload h dL_law_23 rfl ?_
  refine J_aload_n h dL_law_25 rfl rfl ?_
  refine J_xlen h dL_law_26 hsc ?_
  refine J_bipush h dL_law_27 cb_6 ?_
  refine J_isub h dL_law_29 ?_
  refine J_icmp_gt (tgt := 1344) h dL_law_30 (by decide) (fun q1 => ?_) (fun q1 => ?_)
  · skip
    refine J_iconst h dL_law_1344 ci_1 ?_
    exact k2 q1
  · skip
    refine J_aload_n h dL_law_33 rfl rfl ?_
    refine J_iload h dL_law_34 rfl ?_
    refine J_xald h dL_law_36 hsc (s3 q1) ?_
    refine J_bipush h dL_law_37 cb_31 ?_
    refine J_iand h dL_law_39 ?_
    exact k4 q1
theorem rL_law_40 {l : Launch} {G : jG} {X : jX} {Q : State → Prop} {n hg nc : Nat} {ret : Option FieldType} {mu : jM} {L : Nat} {xs : Nat → Int32} {x4 : Int32} {v5 : Value} {v6 : Value} {y0 : Int32} (h : jOk l G X cL_law 7 ret RL hg nc) (hsc : jScr G X L xs)
    (k0 : y0 = 0 → J l G X Q 7 144 [.ref 2000, .ref 0, .ref 58, .ref 93, .int x4, v5, v6] [] mu n)
    (k1 : y0 = 1 → J l G X Q 7 180 [.ref 2000, .ref 0, .ref 58, .ref 93, .int x4, v5, v6] [] mu n)
    (k2 : y0 = 2 → J l G X Q 7 248 [.ref 2000, .ref 0, .ref 58, .ref 93, .int x4, v5, v6] [] mu n)
    (k3 : y0 = 3 → J l G X Q 7 352 [.ref 2000, .ref 0, .ref 58, .ref 93, .int x4, v5, v6] [] mu n)
    (k4 : y0 = 4 → J l G X Q 7 408 [.ref 2000, .ref 0, .ref 58, .ref 93, .int x4, v5, v6] [] mu n)
    (k5 : y0 = 5 → J l G X Q 7 444 [.ref 2000, .ref 0, .ref 58, .ref 93, .int x4, v5, v6] [] mu n)
    (k6 : y0 = 6 → J l G X Q 7 457 [.ref 2000, .ref 0, .ref 58, .ref 93, .int x4, v5, v6] [] mu n)
    (k7 : y0 = 7 → J l G X Q 7 517 [.ref 2000, .ref 0, .ref 58, .ref 93, .int x4, v5, v6] [] mu n)
    (k8 : y0 = 8 → J l G X Q 7 553 [.ref 2000, .ref 0, .ref 58, .ref 93, .int x4, v5, v6] [] mu n)
    (k9 : y0 = 9 → J l G X Q 7 621 [.ref 2000, .ref 0, .ref 58, .ref 93, .int x4, v5, v6] [] mu n)
    (k10 : y0 = 10 → J l G X Q 7 689 [.ref 2000, .ref 0, .ref 58, .ref 93, .int x4, v5, v6] [] mu n)
    (k11 : y0 = 11 → J l G X Q 7 713 [.ref 2000, .ref 0, .ref 58, .ref 93, .int x4, v5, v6] [] mu n)
    (k12 : y0 = 12 → J l G X Q 7 749 [.ref 2000, .ref 0, .ref 58, .ref 93, .int x4, v5, v6] [] mu n)
    (k13 : y0 = 13 → J l G X Q 7 762 [.ref 2000, .ref 0, .ref 58, .ref 93, .int x4, v5, v6] [] mu n)
    (k14 : y0 = 14 → J l G X Q 7 830 [.ref 2000, .ref 0, .ref 58, .ref 93, .int x4, v5, v6] [] mu n)
    (k15 : y0 = 15 → J l G X Q 7 886 [.ref 2000, .ref 0, .ref 58, .ref 93, .int x4, v5, v6] [] mu n)
    (k16 : y0 = 16 → J l G X Q 7 966 [.ref 2000, .ref 0, .ref 58, .ref 93, .int x4, v5, v6] [] mu n)
    (k17 : y0 = 17 → J l G X Q 7 1022 [.ref 2000, .ref 0, .ref 58, .ref 93, .int x4, v5, v6] [] mu n)
    (k18 : y0 = 18 → J l G X Q 7 1078 [.ref 2000, .ref 0, .ref 58, .ref 93, .int x4, v5, v6] [] mu n)
    (k19 : y0 = 19 → J l G X Q 7 1146 [.ref 2000, .ref 0, .ref 58, .ref 93, .int x4, v5, v6] [] mu n)
    (k20 : y0 = 20 → J l G X Q 7 1214 [.ref 2000, .ref 0, .ref 58, .ref 93, .int x4, v5, v6] [] mu n)
    (k21 : y0 = 21 → J l G X Q 7 1282 [.ref 2000, .ref 0, .ref 58, .ref 93, .int x4, v5, v6] [] mu n)
    (kd : ¬ y0 = 0 → ¬ y0 = 1 → ¬ y0 = 2 → ¬ y0 = 3 → ¬ y0 = 4 → ¬ y0 = 5 → ¬ y0 = 6 → ¬ y0 = 7 → ¬ y0 = 8 → ¬ y0 = 9 → ¬ y0 = 10 → ¬ y0 = 11 → ¬ y0 = 12 → ¬ y0 = 13 → ¬ y0 = 14 → ¬ y0 = 15 → ¬ y0 = 16 → ¬ y0 = 17 → ¬ y0 = 18 → ¬ y0 = 19 → ¬ y0 = 20 → ¬ y0 = 21 → J l G X Q 7 1338 [.ref 2000, .ref 0, .ref 58, .ref 93, .int x4, v5, v6] [] mu n) :
    J l G X Q 7 40 [.ref 2000, .ref 0, .ref 58, .ref 93, .int x4, v5, v6] [.int y0] mu n := by
  by_cases e0 : y0 = 0
  · subst e0
    exact J_tableIn (tgt := 144) (off := 104) h dL_law_40 (by decide) (by decide) (by decide) (by decide) (k0 rfl)
  by_cases e1 : y0 = 1
  · subst e1
    exact J_tableIn (tgt := 180) (off := 140) h dL_law_40 (by decide) (by decide) (by decide) (by decide) (k1 rfl)
  by_cases e2 : y0 = 2
  · subst e2
    exact J_tableIn (tgt := 248) (off := 208) h dL_law_40 (by decide) (by decide) (by decide) (by decide) (k2 rfl)
  by_cases e3 : y0 = 3
  · subst e3
    exact J_tableIn (tgt := 352) (off := 312) h dL_law_40 (by decide) (by decide) (by decide) (by decide) (k3 rfl)
  by_cases e4 : y0 = 4
  · subst e4
    exact J_tableIn (tgt := 408) (off := 368) h dL_law_40 (by decide) (by decide) (by decide) (by decide) (k4 rfl)
  by_cases e5 : y0 = 5
  · subst e5
    exact J_tableIn (tgt := 444) (off := 404) h dL_law_40 (by decide) (by decide) (by decide) (by decide) (k5 rfl)
  by_cases e6 : y0 = 6
  · subst e6
    exact J_tableIn (tgt := 457) (off := 417) h dL_law_40 (by decide) (by decide) (by decide) (by decide) (k6 rfl)
  by_cases e7 : y0 = 7
  · subst e7
    exact J_tableIn (tgt := 517) (off := 477) h dL_law_40 (by decide) (by decide) (by decide) (by decide) (k7 rfl)
  by_cases e8 : y0 = 8
  · subst e8
    exact J_tableIn (tgt := 553) (off := 513) h dL_law_40 (by decide) (by decide) (by decide) (by decide) (k8 rfl)
  by_cases e9 : y0 = 9
  · subst e9
    exact J_tableIn (tgt := 621) (off := 581) h dL_law_40 (by decide) (by decide) (by decide) (by decide) (k9 rfl)
  by_cases e10 : y0 = 10
  · subst e10
    exact J_tableIn (tgt := 689) (off := 649) h dL_law_40 (by decide) (by decide) (by decide) (by decide) (k10 rfl)
  by_cases e11 : y0 = 11
  · subst e11
    exact J_tableIn (tgt := 713) (off := 673) h dL_law_40 (by decide) (by decide) (by decide) (by decide) (k11 rfl)
  by_cases e12 : y0 = 12
  · subst e12
    exact J_tableIn (tgt := 749) (off := 709) h dL_law_40 (by decide) (by decide) (by decide) (by decide) (k12 rfl)
  by_cases e13 : y0 = 13
  · subst e13
    exact J_tableIn (tgt := 762) (off := 722) h dL_law_40 (by decide) (by decide) (by decide) (by decide) (k13 rfl)
  by_cases e14 : y0 = 14
  · subst e14
    exact J_tableIn (tgt := 830) (off := 790) h dL_law_40 (by decide) (by decide) (by decide) (by decide) (k14 rfl)
  by_cases e15 : y0 = 15
  · subst e15
    exact J_tableIn (tgt := 886) (off := 846) h dL_law_40 (by decide) (by decide) (by decide) (by decide) (k15 rfl)
  by_cases e16 : y0 = 16
  · subst e16
    exact J_tableIn (tgt := 966) (off := 926) h dL_law_40 (by decide) (by decide) (by decide) (by decide) (k16 rfl)
  by_cases e17 : y0 = 17
  · subst e17
    exact J_tableIn (tgt := 1022) (off := 982) h dL_law_40 (by decide) (by decide) (by decide) (by decide) (k17 rfl)
  by_cases e18 : y0 = 18
  · subst e18
    exact J_tableIn (tgt := 1078) (off := 1038) h dL_law_40 (by decide) (by decide) (by decide) (by decide) (k18 rfl)
  by_cases e19 : y0 = 19
  · subst e19
    exact J_tableIn (tgt := 1146) (off := 1106) h dL_law_40 (by decide) (by decide) (by decide) (by decide) (k19 rfl)
  by_cases e20 : y0 = 20
  · subst e20
    exact J_tableIn (tgt := 1214) (off := 1174) h dL_law_40 (by decide) (by decide) (by decide) (by decide) (k20 rfl)
  by_cases e21 : y0 = 21
  · subst e21
    exact J_tableIn (tgt := 1282) (off := 1242) h dL_law_40 (by decide) (by decide) (by decide) (by decide) (k21 rfl)
  refine J_tableOut (tgt := 1338) h dL_law_40 ?_ (by decide) (kd e0 e1 e2 e3 e4 e5 e6 e7 e8 e9 e10 e11 e12 e13 e14 e15 e16 e17 e18 e19 e20 e21)
  refine jout 22 (by decide) (fun k hk => ?_)
  match k, hk with
  | 0, _ => exact lv_neT e0 (by decide)
  | 1, _ => exact lv_neT e1 (by decide)
  | 2, _ => exact lv_neT e2 (by decide)
  | 3, _ => exact lv_neT e3 (by decide)
  | 4, _ => exact lv_neT e4 (by decide)
  | 5, _ => exact lv_neT e5 (by decide)
  | 6, _ => exact lv_neT e6 (by decide)
  | 7, _ => exact lv_neT e7 (by decide)
  | 8, _ => exact lv_neT e8 (by decide)
  | 9, _ => exact lv_neT e9 (by decide)
  | 10, _ => exact lv_neT e10 (by decide)
  | 11, _ => exact lv_neT e11 (by decide)
  | 12, _ => exact lv_neT e12 (by decide)
  | 13, _ => exact lv_neT e13 (by decide)
  | 14, _ => exact lv_neT e14 (by decide)
  | 15, _ => exact lv_neT e15 (by decide)
  | 16, _ => exact lv_neT e16 (by decide)
  | 17, _ => exact lv_neT e17 (by decide)
  | 18, _ => exact lv_neT e18 (by decide)
  | 19, _ => exact lv_neT e19 (by decide)
  | 20, _ => exact lv_neT e20 (by decide)
  | 21, _ => exact lv_neT e21 (by decide)
  | k + 22, hk => omega
theorem rL_law_144 {l : Launch} {G : jG} {X : jX} {Q : State → Prop} {n hg nc : Nat} {ret : Option FieldType} {mu : jM} {L : Nat} {xs : Nat → Int32} {x4 : Int32} {v5 : Value} {v6 : Value} (h : jOk l G X cL_law 7 ret RL hg nc) (hsc : jScr G X L xs) (s1 : vp_in (x4 + 1) L)
    (k2 : J l G X Q 7 151 [.ref 2000, .ref 0, .ref 58, .ref 93, .int x4, v5, v6] [.int (xs ((x4 + 1)).toNatClampNeg), .ref 0] mu n) :
    J l G X Q 7 144 [.ref 2000, .ref 0, .ref 58, .ref 93, .int x4, v5, v6] [] mu n := by
  refine J_aload_n h dL_law_144 rfl rfl ?_
  refine J_aload_n h dL_law_145 rfl rfl ?_
  refine J_iload h dL_law_146 rfl ?_
  refine J_iconst h dL_law_148 ci_1 ?_
  refine J_iadd h dL_law_149 ?_
  refine J_xald h dL_law_150 hsc (s1) ?_
  exact k2
theorem rL_law_180 {l : Launch} {G : jG} {X : jX} {Q : State → Prop} {n hg nc : Nat} {ret : Option FieldType} {mu : jM} {L : Nat} {xs : Nat → Int32} {x4 : Int32} {v5 : Value} {v6 : Value} (h : jOk l G X cL_law 7 ret RL hg nc) (hsc : jScr G X L xs) (s1 : vp_in (x4 + 1) L) (s2 : vp_in (x4 + 2) L)
    (k3 : J l G X Q 7 194 [.ref 2000, .ref 0, .ref 58, .ref 93, .int x4, v5, v6] [.ref 93, .int (xs ((x4 + 2)).toNatClampNeg), .int (xs ((x4 + 1)).toNatClampNeg), .ref 0] mu n) :
    J l G X Q 7 180 [.ref 2000, .ref 0, .ref 58, .ref 93, .int x4, v5, v6] [] mu n := by
  refine J_aload_n h dL_law_180 rfl rfl ?_
  refine J_aload_n h dL_law_181 rfl rfl ?_
  refine J_iload h dL_law_182 rfl ?_
  refine J_iconst h dL_law_184 ci_1 ?_
  refine J_iadd h dL_law_185 ?_
  refine J_xald h dL_law_186 hsc (s1) ?_
  refine J_aload_n h dL_law_187 rfl rfl ?_
  refine J_iload h dL_law_188 rfl ?_
  refine J_iconst h dL_law_190 ci_2 ?_
  refine J_iadd h dL_law_191 ?_
  refine J_xald h dL_law_192 hsc (s2) ?_
  refine J_aload_n h dL_law_193 rfl rfl ?_
  exact k3
theorem rL_law_248 {l : Launch} {G : jG} {X : jX} {Q : State → Prop} {n hg nc : Nat} {ret : Option FieldType} {mu : jM} {L : Nat} {xs : Nat → Int32} {x4 : Int32} {v5 : Value} {v6 : Value} (h : jOk l G X cL_law 7 ret RL hg nc) (hsc : jScr G X L xs) (s1 : vp_in (x4 + 1) L) (s2 : vp_in (x4 + 2) L) (s3 : vp_in (x4 + 3) L) (s4 : vp_in (x4 + 4) L) (s5 : vp_in (x4 + 5) L)
    (k6 : J l G X Q 7 280 [.ref 2000, .ref 0, .ref 58, .ref 93, .int x4, v5, v6] [.ref 93, .int (xs ((x4 + 5)).toNatClampNeg), .int (xs ((x4 + 4)).toNatClampNeg), .int (xs ((x4 + 3)).toNatClampNeg), .int (xs ((x4 + 2)).toNatClampNeg), .int (xs ((x4 + 1)).toNatClampNeg), .ref 0] mu n) :
    J l G X Q 7 248 [.ref 2000, .ref 0, .ref 58, .ref 93, .int x4, v5, v6] [] mu n := by
  refine J_aload_n h dL_law_248 rfl rfl ?_
  refine J_aload_n h dL_law_249 rfl rfl ?_
  refine J_iload h dL_law_250 rfl ?_
  refine J_iconst h dL_law_252 ci_1 ?_
  refine J_iadd h dL_law_253 ?_
  refine J_xald h dL_law_254 hsc (s1) ?_
  refine J_aload_n h dL_law_255 rfl rfl ?_
  refine J_iload h dL_law_256 rfl ?_
  refine J_iconst h dL_law_258 ci_2 ?_
  refine J_iadd h dL_law_259 ?_
  refine J_xald h dL_law_260 hsc (s2) ?_
  refine J_aload_n h dL_law_261 rfl rfl ?_
  refine J_iload h dL_law_262 rfl ?_
  refine J_iconst h dL_law_264 ci_3 ?_
  refine J_iadd h dL_law_265 ?_
  refine J_xald h dL_law_266 hsc (s3) ?_
  refine J_aload_n h dL_law_267 rfl rfl ?_
  refine J_iload h dL_law_268 rfl ?_
  refine J_iconst h dL_law_270 ci_4 ?_
  refine J_iadd h dL_law_271 ?_
  refine J_xald h dL_law_272 hsc (s4) ?_
  refine J_aload_n h dL_law_273 rfl rfl ?_
  refine J_iload h dL_law_274 rfl ?_
  refine J_iconst h dL_law_276 ci_5 ?_
  refine J_iadd h dL_law_277 ?_
  refine J_xald h dL_law_278 hsc (s5) ?_
  refine J_aload_n h dL_law_279 rfl rfl ?_
  exact k6
theorem rL_law_352 {l : Launch} {G : jG} {X : jX} {Q : State → Prop} {n hg nc : Nat} {ret : Option FieldType} {mu : jM} {L : Nat} {xs : Nat → Int32} {x4 : Int32} {v5 : Value} {v6 : Value} (h : jOk l G X cL_law 7 ret RL hg nc) (hsc : jScr G X L xs) (s1 : vp_in (x4 + 1) L)
    (k2 : J l G X Q 7 360 [.ref 2000, .ref 0, .ref 58, .ref 93, .int x4, v5, v6] [.ref 93, .int (xs ((x4 + 1)).toNatClampNeg), .ref 0] mu n) :
    J l G X Q 7 352 [.ref 2000, .ref 0, .ref 58, .ref 93, .int x4, v5, v6] [] mu n := by
  refine J_aload_n h dL_law_352 rfl rfl ?_
  refine J_aload_n h dL_law_353 rfl rfl ?_
  refine J_iload h dL_law_354 rfl ?_
  refine J_iconst h dL_law_356 ci_1 ?_
  refine J_iadd h dL_law_357 ?_
  refine J_xald h dL_law_358 hsc (s1) ?_
  refine J_aload_n h dL_law_359 rfl rfl ?_
  exact k2
theorem rL_law_408 {l : Launch} {G : jG} {X : jX} {Q : State → Prop} {n hg nc : Nat} {ret : Option FieldType} {mu : jM} {L : Nat} {xs : Nat → Int32} {x4 : Int32} {v5 : Value} {v6 : Value} (h : jOk l G X cL_law 7 ret RL hg nc) (hsc : jScr G X L xs) (s1 : vp_in (x4 + 1) L)
    (k2 : J l G X Q 7 415 [.ref 2000, .ref 0, .ref 58, .ref 93, .int x4, v5, v6] [.int (xs ((x4 + 1)).toNatClampNeg), .ref 0] mu n) :
    J l G X Q 7 408 [.ref 2000, .ref 0, .ref 58, .ref 93, .int x4, v5, v6] [] mu n := by
  refine J_aload_n h dL_law_408 rfl rfl ?_
  refine J_aload_n h dL_law_409 rfl rfl ?_
  refine J_iload h dL_law_410 rfl ?_
  refine J_iconst h dL_law_412 ci_1 ?_
  refine J_iadd h dL_law_413 ?_
  refine J_xald h dL_law_414 hsc (s1) ?_
  exact k2
theorem rL_law_444 {l : Launch} {G : jG} {X : jX} {Q : State → Prop} {n hg nc : Nat} {ret : Option FieldType} {mu : jM} {L : Nat} {xs : Nat → Int32} {x4 : Int32} {v5 : Value} {v6 : Value} (h : jOk l G X cL_law 7 ret RL hg nc) (hsc : jScr G X L xs)
    (k1 : J l G X Q 7 445 [.ref 2000, .ref 0, .ref 58, .ref 93, .int x4, v5, v6] [.ref 0] mu n) :
    J l G X Q 7 444 [.ref 2000, .ref 0, .ref 58, .ref 93, .int x4, v5, v6] [] mu n := by
  refine J_aload_n h dL_law_444 rfl rfl ?_
  exact k1
theorem rL_law_457 {l : Launch} {G : jG} {X : jX} {Q : State → Prop} {n hg nc : Nat} {ret : Option FieldType} {mu : jM} {L : Nat} {xs : Nat → Int32} {x4 : Int32} {v5 : Value} {v6 : Value} (h : jOk l G X cL_law 7 ret RL hg nc) (hsc : jScr G X L xs) (s1 : vp_in (x4 + 1) L) (s2 : vp_in (x4 + 2) L) (s3 : vp_in (x4 + 3) L)
    (k4 : J l G X Q 7 476 [.ref 2000, .ref 0, .ref 58, .ref 93, .int x4, v5, v6] [.int (xs ((x4 + 3)).toNatClampNeg), .int (xs ((x4 + 2)).toNatClampNeg), .int (xs ((x4 + 1)).toNatClampNeg), .ref 0] mu n) :
    J l G X Q 7 457 [.ref 2000, .ref 0, .ref 58, .ref 93, .int x4, v5, v6] [] mu n := by
  refine J_aload_n h dL_law_457 rfl rfl ?_
  refine J_aload_n h dL_law_458 rfl rfl ?_
  refine J_iload h dL_law_459 rfl ?_
  refine J_iconst h dL_law_461 ci_1 ?_
  refine J_iadd h dL_law_462 ?_
  refine J_xald h dL_law_463 hsc (s1) ?_
  refine J_aload_n h dL_law_464 rfl rfl ?_
  refine J_iload h dL_law_465 rfl ?_
  refine J_iconst h dL_law_467 ci_2 ?_
  refine J_iadd h dL_law_468 ?_
  refine J_xald h dL_law_469 hsc (s2) ?_
  refine J_aload_n h dL_law_470 rfl rfl ?_
  refine J_iload h dL_law_471 rfl ?_
  refine J_iconst h dL_law_473 ci_3 ?_
  refine J_iadd h dL_law_474 ?_
  refine J_xald h dL_law_475 hsc (s3) ?_
  exact k4
theorem rL_law_517 {l : Launch} {G : jG} {X : jX} {Q : State → Prop} {n hg nc : Nat} {ret : Option FieldType} {mu : jM} {L : Nat} {xs : Nat → Int32} {x4 : Int32} {v5 : Value} {v6 : Value} (h : jOk l G X cL_law 7 ret RL hg nc) (hsc : jScr G X L xs) (s1 : vp_in (x4 + 1) L)
    (k2 : J l G X Q 7 524 [.ref 2000, .ref 0, .ref 58, .ref 93, .int x4, v5, v6] [.int (xs ((x4 + 1)).toNatClampNeg), .ref 0] mu n) :
    J l G X Q 7 517 [.ref 2000, .ref 0, .ref 58, .ref 93, .int x4, v5, v6] [] mu n := by
  refine J_aload_n h dL_law_517 rfl rfl ?_
  refine J_aload_n h dL_law_518 rfl rfl ?_
  refine J_iload h dL_law_519 rfl ?_
  refine J_iconst h dL_law_521 ci_1 ?_
  refine J_iadd h dL_law_522 ?_
  refine J_xald h dL_law_523 hsc (s1) ?_
  exact k2
theorem rL_law_553 {l : Launch} {G : jG} {X : jX} {Q : State → Prop} {n hg nc : Nat} {ret : Option FieldType} {mu : jM} {L : Nat} {xs : Nat → Int32} {x4 : Int32} {v5 : Value} {v6 : Value} (h : jOk l G X cL_law 7 ret RL hg nc) (hsc : jScr G X L xs) (s1 : vp_in (x4 + 1) L) (s2 : vp_in (x4 + 2) L)
    (k3 : J l G X Q 7 567 [.ref 2000, .ref 0, .ref 58, .ref 93, .int x4, v5, v6] [.ref 93, .int (xs ((x4 + 2)).toNatClampNeg), .int (xs ((x4 + 1)).toNatClampNeg), .ref 0] mu n) :
    J l G X Q 7 553 [.ref 2000, .ref 0, .ref 58, .ref 93, .int x4, v5, v6] [] mu n := by
  refine J_aload_n h dL_law_553 rfl rfl ?_
  refine J_aload_n h dL_law_554 rfl rfl ?_
  refine J_iload h dL_law_555 rfl ?_
  refine J_iconst h dL_law_557 ci_1 ?_
  refine J_iadd h dL_law_558 ?_
  refine J_xald h dL_law_559 hsc (s1) ?_
  refine J_aload_n h dL_law_560 rfl rfl ?_
  refine J_iload h dL_law_561 rfl ?_
  refine J_iconst h dL_law_563 ci_2 ?_
  refine J_iadd h dL_law_564 ?_
  refine J_xald h dL_law_565 hsc (s2) ?_
  refine J_aload_n h dL_law_566 rfl rfl ?_
  exact k3
theorem rL_law_621 {l : Launch} {G : jG} {X : jX} {Q : State → Prop} {n hg nc : Nat} {ret : Option FieldType} {mu : jM} {L : Nat} {xs : Nat → Int32} {x4 : Int32} {v5 : Value} {v6 : Value} (h : jOk l G X cL_law 7 ret RL hg nc) (hsc : jScr G X L xs) (s1 : vp_in (x4 + 1) L) (s2 : vp_in (x4 + 2) L)
    (k3 : J l G X Q 7 635 [.ref 2000, .ref 0, .ref 58, .ref 93, .int x4, v5, v6] [.ref 93, .int (xs ((x4 + 2)).toNatClampNeg), .int (xs ((x4 + 1)).toNatClampNeg), .ref 0] mu n) :
    J l G X Q 7 621 [.ref 2000, .ref 0, .ref 58, .ref 93, .int x4, v5, v6] [] mu n := by
  refine J_aload_n h dL_law_621 rfl rfl ?_
  refine J_aload_n h dL_law_622 rfl rfl ?_
  refine J_iload h dL_law_623 rfl ?_
  refine J_iconst h dL_law_625 ci_1 ?_
  refine J_iadd h dL_law_626 ?_
  refine J_xald h dL_law_627 hsc (s1) ?_
  refine J_aload_n h dL_law_628 rfl rfl ?_
  refine J_iload h dL_law_629 rfl ?_
  refine J_iconst h dL_law_631 ci_2 ?_
  refine J_iadd h dL_law_632 ?_
  refine J_xald h dL_law_633 hsc (s2) ?_
  refine J_aload_n h dL_law_634 rfl rfl ?_
  exact k3
theorem rL_law_689 {l : Launch} {G : jG} {X : jX} {Q : State → Prop} {n hg nc : Nat} {ret : Option FieldType} {mu : jM} {L : Nat} {xs : Nat → Int32} {x4 : Int32} {v5 : Value} {v6 : Value} (h : jOk l G X cL_law 7 ret RL hg nc) (hsc : jScr G X L xs)
    (k1 : J l G X Q 7 690 [.ref 2000, .ref 0, .ref 58, .ref 93, .int x4, v5, v6] [.ref 0] mu n) :
    J l G X Q 7 689 [.ref 2000, .ref 0, .ref 58, .ref 93, .int x4, v5, v6] [] mu n := by
  refine J_aload_n h dL_law_689 rfl rfl ?_
  exact k1
theorem rL_law_713 {l : Launch} {G : jG} {X : jX} {Q : State → Prop} {n hg nc : Nat} {ret : Option FieldType} {mu : jM} {L : Nat} {xs : Nat → Int32} {x4 : Int32} {v5 : Value} {v6 : Value} (h : jOk l G X cL_law 7 ret RL hg nc) (hsc : jScr G X L xs) (s1 : vp_in (x4 + 1) L)
    (k2 : J l G X Q 7 720 [.ref 2000, .ref 0, .ref 58, .ref 93, .int x4, v5, v6] [.int (xs ((x4 + 1)).toNatClampNeg), .ref 0] mu n) :
    J l G X Q 7 713 [.ref 2000, .ref 0, .ref 58, .ref 93, .int x4, v5, v6] [] mu n := by
  refine J_aload_n h dL_law_713 rfl rfl ?_
  refine J_aload_n h dL_law_714 rfl rfl ?_
  refine J_iload h dL_law_715 rfl ?_
  refine J_iconst h dL_law_717 ci_1 ?_
  refine J_iadd h dL_law_718 ?_
  refine J_xald h dL_law_719 hsc (s1) ?_
  exact k2
theorem rL_law_749 {l : Launch} {G : jG} {X : jX} {Q : State → Prop} {n hg nc : Nat} {ret : Option FieldType} {mu : jM} {L : Nat} {xs : Nat → Int32} {x4 : Int32} {v5 : Value} {v6 : Value} (h : jOk l G X cL_law 7 ret RL hg nc) (hsc : jScr G X L xs)
    (k1 : J l G X Q 7 750 [.ref 2000, .ref 0, .ref 58, .ref 93, .int x4, v5, v6] [.ref 0] mu n) :
    J l G X Q 7 749 [.ref 2000, .ref 0, .ref 58, .ref 93, .int x4, v5, v6] [] mu n := by
  refine J_aload_n h dL_law_749 rfl rfl ?_
  exact k1
theorem rL_law_762 {l : Launch} {G : jG} {X : jX} {Q : State → Prop} {n hg nc : Nat} {ret : Option FieldType} {mu : jM} {L : Nat} {xs : Nat → Int32} {x4 : Int32} {v5 : Value} {v6 : Value} (h : jOk l G X cL_law 7 ret RL hg nc) (hsc : jScr G X L xs) (s1 : vp_in (x4 + 1) L) (s2 : vp_in (x4 + 2) L)
    (k3 : J l G X Q 7 776 [.ref 2000, .ref 0, .ref 58, .ref 93, .int x4, v5, v6] [.ref 93, .int (xs ((x4 + 2)).toNatClampNeg), .int (xs ((x4 + 1)).toNatClampNeg), .ref 0] mu n) :
    J l G X Q 7 762 [.ref 2000, .ref 0, .ref 58, .ref 93, .int x4, v5, v6] [] mu n := by
  refine J_aload_n h dL_law_762 rfl rfl ?_
  refine J_aload_n h dL_law_763 rfl rfl ?_
  refine J_iload h dL_law_764 rfl ?_
  refine J_iconst h dL_law_766 ci_1 ?_
  refine J_iadd h dL_law_767 ?_
  refine J_xald h dL_law_768 hsc (s1) ?_
  refine J_aload_n h dL_law_769 rfl rfl ?_
  refine J_iload h dL_law_770 rfl ?_
  refine J_iconst h dL_law_772 ci_2 ?_
  refine J_iadd h dL_law_773 ?_
  refine J_xald h dL_law_774 hsc (s2) ?_
  refine J_aload_n h dL_law_775 rfl rfl ?_
  exact k3
theorem rL_law_830 {l : Launch} {G : jG} {X : jX} {Q : State → Prop} {n hg nc : Nat} {ret : Option FieldType} {mu : jM} {L : Nat} {xs : Nat → Int32} {x4 : Int32} {v5 : Value} {v6 : Value} (h : jOk l G X cL_law 7 ret RL hg nc) (hsc : jScr G X L xs) (s1 : vp_in (x4 + 1) L)
    (k2 : J l G X Q 7 838 [.ref 2000, .ref 0, .ref 58, .ref 93, .int x4, v5, v6] [.ref 93, .int (xs ((x4 + 1)).toNatClampNeg), .ref 0] mu n) :
    J l G X Q 7 830 [.ref 2000, .ref 0, .ref 58, .ref 93, .int x4, v5, v6] [] mu n := by
  refine J_aload_n h dL_law_830 rfl rfl ?_
  refine J_aload_n h dL_law_831 rfl rfl ?_
  refine J_iload h dL_law_832 rfl ?_
  refine J_iconst h dL_law_834 ci_1 ?_
  refine J_iadd h dL_law_835 ?_
  refine J_xald h dL_law_836 hsc (s1) ?_
  refine J_aload_n h dL_law_837 rfl rfl ?_
  exact k2
theorem rL_law_886 {l : Launch} {G : jG} {X : jX} {Q : State → Prop} {n hg nc : Nat} {ret : Option FieldType} {mu : jM} {L : Nat} {xs : Nat → Int32} {x4 : Int32} {v5 : Value} {v6 : Value} (h : jOk l G X cL_law 7 ret RL hg nc) (hsc : jScr G X L xs) (s1 : vp_in (x4 + 1) L) (s2 : vp_in (x4 + 2) L) (s3 : vp_in (x4 + 3) L)
    (k4 : J l G X Q 7 906 [.ref 2000, .ref 0, .ref 58, .ref 93, .int x4, v5, v6] [.ref 93, .int (xs ((x4 + 3)).toNatClampNeg), .int (xs ((x4 + 2)).toNatClampNeg), .int (xs ((x4 + 1)).toNatClampNeg), .ref 0] mu n) :
    J l G X Q 7 886 [.ref 2000, .ref 0, .ref 58, .ref 93, .int x4, v5, v6] [] mu n := by
  refine J_aload_n h dL_law_886 rfl rfl ?_
  refine J_aload_n h dL_law_887 rfl rfl ?_
  refine J_iload h dL_law_888 rfl ?_
  refine J_iconst h dL_law_890 ci_1 ?_
  refine J_iadd h dL_law_891 ?_
  refine J_xald h dL_law_892 hsc (s1) ?_
  refine J_aload_n h dL_law_893 rfl rfl ?_
  refine J_iload h dL_law_894 rfl ?_
  refine J_iconst h dL_law_896 ci_2 ?_
  refine J_iadd h dL_law_897 ?_
  refine J_xald h dL_law_898 hsc (s2) ?_
  refine J_aload_n h dL_law_899 rfl rfl ?_
  refine J_iload h dL_law_900 rfl ?_
  refine J_iconst h dL_law_902 ci_3 ?_
  refine J_iadd h dL_law_903 ?_
  refine J_xald h dL_law_904 hsc (s3) ?_
  refine J_aload_n h dL_law_905 rfl rfl ?_
  exact k4
theorem rL_law_966 {l : Launch} {G : jG} {X : jX} {Q : State → Prop} {n hg nc : Nat} {ret : Option FieldType} {mu : jM} {L : Nat} {xs : Nat → Int32} {x4 : Int32} {v5 : Value} {v6 : Value} (h : jOk l G X cL_law 7 ret RL hg nc) (hsc : jScr G X L xs) (s1 : vp_in (x4 + 1) L)
    (k2 : J l G X Q 7 974 [.ref 2000, .ref 0, .ref 58, .ref 93, .int x4, v5, v6] [.ref 93, .int (xs ((x4 + 1)).toNatClampNeg), .ref 0] mu n) :
    J l G X Q 7 966 [.ref 2000, .ref 0, .ref 58, .ref 93, .int x4, v5, v6] [] mu n := by
  refine J_aload_n h dL_law_966 rfl rfl ?_
  refine J_aload_n h dL_law_967 rfl rfl ?_
  refine J_iload h dL_law_968 rfl ?_
  refine J_iconst h dL_law_970 ci_1 ?_
  refine J_iadd h dL_law_971 ?_
  refine J_xald h dL_law_972 hsc (s1) ?_
  refine J_aload_n h dL_law_973 rfl rfl ?_
  exact k2
theorem rL_law_1022 {l : Launch} {G : jG} {X : jX} {Q : State → Prop} {n hg nc : Nat} {ret : Option FieldType} {mu : jM} {L : Nat} {xs : Nat → Int32} {x4 : Int32} {v5 : Value} {v6 : Value} (h : jOk l G X cL_law 7 ret RL hg nc) (hsc : jScr G X L xs) (s1 : vp_in (x4 + 1) L)
    (k2 : J l G X Q 7 1030 [.ref 2000, .ref 0, .ref 58, .ref 93, .int x4, v5, v6] [.ref 93, .int (xs ((x4 + 1)).toNatClampNeg), .ref 0] mu n) :
    J l G X Q 7 1022 [.ref 2000, .ref 0, .ref 58, .ref 93, .int x4, v5, v6] [] mu n := by
  refine J_aload_n h dL_law_1022 rfl rfl ?_
  refine J_aload_n h dL_law_1023 rfl rfl ?_
  refine J_iload h dL_law_1024 rfl ?_
  refine J_iconst h dL_law_1026 ci_1 ?_
  refine J_iadd h dL_law_1027 ?_
  refine J_xald h dL_law_1028 hsc (s1) ?_
  refine J_aload_n h dL_law_1029 rfl rfl ?_
  exact k2
theorem rL_law_1078 {l : Launch} {G : jG} {X : jX} {Q : State → Prop} {n hg nc : Nat} {ret : Option FieldType} {mu : jM} {L : Nat} {xs : Nat → Int32} {x4 : Int32} {v5 : Value} {v6 : Value} (h : jOk l G X cL_law 7 ret RL hg nc) (hsc : jScr G X L xs) (s1 : vp_in (x4 + 1) L) (s2 : vp_in (x4 + 2) L)
    (k3 : J l G X Q 7 1092 [.ref 2000, .ref 0, .ref 58, .ref 93, .int x4, v5, v6] [.ref 93, .int (xs ((x4 + 2)).toNatClampNeg), .int (xs ((x4 + 1)).toNatClampNeg), .ref 0] mu n) :
    J l G X Q 7 1078 [.ref 2000, .ref 0, .ref 58, .ref 93, .int x4, v5, v6] [] mu n := by
  refine J_aload_n h dL_law_1078 rfl rfl ?_
  refine J_aload_n h dL_law_1079 rfl rfl ?_
  refine J_iload h dL_law_1080 rfl ?_
  refine J_iconst h dL_law_1082 ci_1 ?_
  refine J_iadd h dL_law_1083 ?_
  refine J_xald h dL_law_1084 hsc (s1) ?_
  refine J_aload_n h dL_law_1085 rfl rfl ?_
  refine J_iload h dL_law_1086 rfl ?_
  refine J_iconst h dL_law_1088 ci_2 ?_
  refine J_iadd h dL_law_1089 ?_
  refine J_xald h dL_law_1090 hsc (s2) ?_
  refine J_aload_n h dL_law_1091 rfl rfl ?_
  exact k3
theorem rL_law_1146 {l : Launch} {G : jG} {X : jX} {Q : State → Prop} {n hg nc : Nat} {ret : Option FieldType} {mu : jM} {L : Nat} {xs : Nat → Int32} {x4 : Int32} {v5 : Value} {v6 : Value} (h : jOk l G X cL_law 7 ret RL hg nc) (hsc : jScr G X L xs) (s1 : vp_in (x4 + 1) L) (s2 : vp_in (x4 + 2) L)
    (k3 : J l G X Q 7 1160 [.ref 2000, .ref 0, .ref 58, .ref 93, .int x4, v5, v6] [.ref 93, .int (xs ((x4 + 2)).toNatClampNeg), .int (xs ((x4 + 1)).toNatClampNeg), .ref 0] mu n) :
    J l G X Q 7 1146 [.ref 2000, .ref 0, .ref 58, .ref 93, .int x4, v5, v6] [] mu n := by
  refine J_aload_n h dL_law_1146 rfl rfl ?_
  refine J_aload_n h dL_law_1147 rfl rfl ?_
  refine J_iload h dL_law_1148 rfl ?_
  refine J_iconst h dL_law_1150 ci_1 ?_
  refine J_iadd h dL_law_1151 ?_
  refine J_xald h dL_law_1152 hsc (s1) ?_
  refine J_aload_n h dL_law_1153 rfl rfl ?_
  refine J_iload h dL_law_1154 rfl ?_
  refine J_iconst h dL_law_1156 ci_2 ?_
  refine J_iadd h dL_law_1157 ?_
  refine J_xald h dL_law_1158 hsc (s2) ?_
  refine J_aload_n h dL_law_1159 rfl rfl ?_
  exact k3
theorem rL_law_1214 {l : Launch} {G : jG} {X : jX} {Q : State → Prop} {n hg nc : Nat} {ret : Option FieldType} {mu : jM} {L : Nat} {xs : Nat → Int32} {x4 : Int32} {v5 : Value} {v6 : Value} (h : jOk l G X cL_law 7 ret RL hg nc) (hsc : jScr G X L xs) (s1 : vp_in (x4 + 1) L) (s2 : vp_in (x4 + 2) L)
    (k3 : J l G X Q 7 1228 [.ref 2000, .ref 0, .ref 58, .ref 93, .int x4, v5, v6] [.ref 93, .int (xs ((x4 + 2)).toNatClampNeg), .int (xs ((x4 + 1)).toNatClampNeg), .ref 0] mu n) :
    J l G X Q 7 1214 [.ref 2000, .ref 0, .ref 58, .ref 93, .int x4, v5, v6] [] mu n := by
  refine J_aload_n h dL_law_1214 rfl rfl ?_
  refine J_aload_n h dL_law_1215 rfl rfl ?_
  refine J_iload h dL_law_1216 rfl ?_
  refine J_iconst h dL_law_1218 ci_1 ?_
  refine J_iadd h dL_law_1219 ?_
  refine J_xald h dL_law_1220 hsc (s1) ?_
  refine J_aload_n h dL_law_1221 rfl rfl ?_
  refine J_iload h dL_law_1222 rfl ?_
  refine J_iconst h dL_law_1224 ci_2 ?_
  refine J_iadd h dL_law_1225 ?_
  refine J_xald h dL_law_1226 hsc (s2) ?_
  refine J_aload_n h dL_law_1227 rfl rfl ?_
  exact k3
theorem rL_law_1282 {l : Launch} {G : jG} {X : jX} {Q : State → Prop} {n hg nc : Nat} {ret : Option FieldType} {mu : jM} {L : Nat} {xs : Nat → Int32} {x4 : Int32} {v5 : Value} {v6 : Value} (h : jOk l G X cL_law 7 ret RL hg nc) (hsc : jScr G X L xs) (s1 : vp_in (x4 + 1) L)
    (k2 : J l G X Q 7 1290 [.ref 2000, .ref 0, .ref 58, .ref 93, .int x4, v5, v6] [.ref 93, .int (xs ((x4 + 1)).toNatClampNeg), .ref 0] mu n) :
    J l G X Q 7 1282 [.ref 2000, .ref 0, .ref 58, .ref 93, .int x4, v5, v6] [] mu n := by
  refine J_aload_n h dL_law_1282 rfl rfl ?_
  refine J_aload_n h dL_law_1283 rfl rfl ?_
  refine J_iload h dL_law_1284 rfl ?_
  refine J_iconst h dL_law_1286 ci_1 ?_
  refine J_iadd h dL_law_1287 ?_
  refine J_xald h dL_law_1288 hsc (s1) ?_
  refine J_aload_n h dL_law_1289 rfl rfl ?_
  exact k2
theorem rL_law_1338 {l : Launch} {G : jG} {X : jX} {Q : State → Prop} {n hg nc : Nat} {ret : Option FieldType} {mu : jM} {L : Nat} {xs : Nat → Int32} {x4 : Int32} {v5 : Value} {v6 : Value} (h : jOk l G X cL_law 7 ret RL hg nc) (hsc : jScr G X L xs)
    (k1 : J l G X Q 7 23 [.ref 2000, .ref 0, .ref 58, .ref 93, .int (x4 + 6), v5, v6] [] mu n) :
    J l G X Q 7 1338 [.ref 2000, .ref 0, .ref 58, .ref 93, .int x4, v5, v6] [] mu n := by
  refine J_iinc h dL_law_1338 rfl (cc_6 _) (by decide) rfl ?_
  show J l G X Q 7 1341 [.ref 2000, .ref 0, .ref 58, .ref 93, .int (x4 + 6), v5, v6] [] mu n
  refine J_goto (tgt := 23) h dL_law_1341 (by decide) ?_
  exact k1
theorem rL_law_151 {l : Launch} {G : jG} {X : jX} {Q : State → Prop} {n hg nc : Nat} {ret : Option FieldType} {mu : jM} {L : Nat} {xs : Nat → Int32} {x4 : Int32} {v5 : Value} {v6 : Value} {y0 : Int32} {Qc : Int32 → jM → Prop} {h' nc' : Nat} (h : jOk l G X cL_law 7 ret RL hg nc) (hsc : jScr G X L xs) (hM : jL l G yL_net cL_net 3 h' nc' hL_net [.ref 0, .int y0] mu Qc) (hh : h' < hg ∧ 3 ≤ 21) (hn : n + nc' ≤ nc)
    (kk : ∀ v mu', Qc v mu' → J l G X Q 7 154 [.ref 2000, .ref 0, .ref 58, .ref 93, .int x4, v5, v6] (.int v :: []) mu' (n + nc')) :
    J l G X Q 7 151 [.ref 2000, .ref 0, .ref 58, .ref 93, .int x4, v5, v6] [.int y0, .ref 0] mu n :=
  J_callL (As := [.ref 0, .int y0]) (rest := []) h dL_law_151 hM (jgL w410 w411 w75 w412) nmL_net rfl hh (Nat.le_of_ble_eq_true rfl) rfl hn kk
theorem rL_law_194 {l : Launch} {G : jG} {X : jX} {Q : State → Prop} {n hg nc : Nat} {ret : Option FieldType} {mu : jM} {L : Nat} {xs : Nat → Int32} {x4 : Int32} {v5 : Value} {v6 : Value} {y1 : Int32} {y2 : Int32} {Qc : Int32 → jM → Prop} {h' nc' : Nat} (h : jOk l G X cL_law 7 ret RL hg nc) (hsc : jScr G X L xs) (hM : jL l G yL_link cL_link 5 h' nc' hL_link [.ref 0, .int y2, .int y1, .ref 93] mu Qc) (hh : h' < hg ∧ 5 ≤ 21) (hn : n + nc' ≤ nc)
    (kk : ∀ v mu', Qc v mu' → J l G X Q 7 197 [.ref 2000, .ref 0, .ref 58, .ref 93, .int x4, v5, v6] (.int v :: []) mu' (n + nc')) :
    J l G X Q 7 194 [.ref 2000, .ref 0, .ref 58, .ref 93, .int x4, v5, v6] [.ref 93, .int y1, .int y2, .ref 0] mu n :=
  J_callL (As := [.ref 0, .int y2, .int y1, .ref 93]) (rest := []) h dL_law_194 hM (jgL w525 w526 w75 w527) nmL_link rfl hh (Nat.le_of_ble_eq_true rfl) rfl hn kk
theorem rL_law_280 {l : Launch} {G : jG} {X : jX} {Q : State → Prop} {n hg nc : Nat} {ret : Option FieldType} {mu : jM} {L : Nat} {xs : Nat → Int32} {x4 : Int32} {v5 : Value} {v6 : Value} {y1 : Int32} {y2 : Int32} {y3 : Int32} {y4 : Int32} {y5 : Int32} {Qc : Int32 → jM → Prop} {h' nc' : Nat} (h : jOk l G X cL_law 7 ret RL hg nc) (hsc : jScr G X L xs) (hM : jL l G yL_word cL_word 8 h' nc' hL_word [.ref 0, .int y5, .int y4, .int y3, .int y2, .int y1, .ref 93] mu Qc) (hh : h' < hg ∧ 8 ≤ 21) (hn : n + nc' ≤ nc)
    (kk : ∀ v mu', Qc v mu' → J l G X Q 7 283 [.ref 2000, .ref 0, .ref 58, .ref 93, .int x4, v5, v6] (.int v :: []) mu' (n + nc')) :
    J l G X Q 7 280 [.ref 2000, .ref 0, .ref 58, .ref 93, .int x4, v5, v6] [.ref 93, .int y1, .int y2, .int y3, .int y4, .int y5, .ref 0] mu n :=
  J_callL (As := [.ref 0, .int y5, .int y4, .int y3, .int y2, .int y1, .ref 93]) (rest := []) h dL_law_280 hM (jgL w584 w585 w75 w586) nmL_word rfl hh (Nat.le_of_ble_eq_true rfl) rfl hn kk
theorem rL_law_360 {l : Launch} {G : jG} {X : jX} {Q : State → Prop} {n hg nc : Nat} {ret : Option FieldType} {mu : jM} {L : Nat} {xs : Nat → Int32} {x4 : Int32} {v5 : Value} {v6 : Value} {y1 : Int32} {Qc : Int32 → jM → Prop} {h' nc' : Nat} (h : jOk l G X cL_law 7 ret RL hg nc) (hsc : jScr G X L xs) (hM : jL l G yL_builtin cL_builtin 4 h' nc' hL_builtin [.ref 0, .int y1, .ref 93] mu Qc) (hh : h' < hg ∧ 4 ≤ 21) (hn : n + nc' ≤ nc)
    (kk : ∀ v mu', Qc v mu' → J l G X Q 7 363 [.ref 2000, .ref 0, .ref 58, .ref 93, .int x4, v5, v6] (.int v :: []) mu' (n + nc')) :
    J l G X Q 7 360 [.ref 2000, .ref 0, .ref 58, .ref 93, .int x4, v5, v6] [.ref 93, .int y1, .ref 0] mu n :=
  J_callL (As := [.ref 0, .int y1, .ref 93]) (rest := []) h dL_law_360 hM (jgL w597 w598 w75 w599) nmL_builtin rfl hh (Nat.le_of_ble_eq_true rfl) rfl hn kk
theorem rL_law_415 {l : Launch} {G : jG} {X : jX} {Q : State → Prop} {n hg nc : Nat} {ret : Option FieldType} {mu : jM} {L : Nat} {xs : Nat → Int32} {x4 : Int32} {v5 : Value} {v6 : Value} {y0 : Int32} {Qc : Int32 → jM → Prop} {h' nc' : Nat} (h : jOk l G X cL_law 7 ret RL hg nc) (hsc : jScr G X L xs) (hM : jL l G yL_cutAt cL_cutAt 3 h' nc' hL_cutAt [.ref 0, .int y0] mu Qc) (hh : h' < hg ∧ 3 ≤ 21) (hn : n + nc' ≤ nc)
    (kk : ∀ v mu', Qc v mu' → J l G X Q 7 418 [.ref 2000, .ref 0, .ref 58, .ref 93, .int x4, v5, v6] (.int v :: []) mu' (n + nc')) :
    J l G X Q 7 415 [.ref 2000, .ref 0, .ref 58, .ref 93, .int x4, v5, v6] [.int y0, .ref 0] mu n :=
  J_callL (As := [.ref 0, .int y0]) (rest := []) h dL_law_415 hM (jgL w622 w623 w75 w624) nmL_cutAt rfl hh (Nat.le_of_ble_eq_true rfl) rfl hn kk
theorem rL_law_445 {l : Launch} {G : jG} {X : jX} {Q : State → Prop} {n hg nc : Nat} {ret : Option FieldType} {mu : jM} {L : Nat} {xs : Nat → Int32} {x4 : Int32} {v5 : Value} {v6 : Value} {Qc : Int32 → jM → Prop} {h' : Nat} (h : jOk l G X cL_law 7 ret RL hg nc) (hsc : jScr G X L xs) (hM : jCi l G yX7_check cX7_check 1 h' (some .int) (.ref 0 :: []) mu Qc) (hh : h' < hg ∧ 1 ≤ 21) (hn : n ≤ nc)
    (kk : ∀ v mu', Qc v mu' → J l G X Q 7 448 [.ref 2000, .ref 0, .ref 58, .ref 93, .int x4, v5, v6] (.int v :: []) mu' n) :
    J l G X Q 7 445 [.ref 2000, .ref 0, .ref 58, .ref 93, .int x4, v5, v6] [.ref 0] mu n :=
  J_callVi (As := []) (rest := []) h dL_law_445 hM (jgV w379 w380 w381 w76 w382) rfl (ci := 7) rfl rfl nmX7_check rfl hh (Nat.le_of_ble_eq_true rfl) rfl kk hn
theorem rL_law_476 {l : Launch} {G : jG} {X : jX} {Q : State → Prop} {n hg nc : Nat} {ret : Option FieldType} {mu : jM} {L : Nat} {xs : Nat → Int32} {x4 : Int32} {v5 : Value} {v6 : Value} {y0 : Int32} {y1 : Int32} {y2 : Int32} {Qc : Int32 → jM → Prop} {h' nc' : Nat} (h : jOk l G X cL_law 7 ret RL hg nc) (hsc : jScr G X L xs) (hM : jL l G yL_input cL_input 5 h' nc' hL_input [.ref 0, .int y2, .int y1, .int y0] mu Qc) (hh : h' < hg ∧ 5 ≤ 21) (hn : n + nc' ≤ nc)
    (kk : ∀ v mu', Qc v mu' → J l G X Q 7 479 [.ref 2000, .ref 0, .ref 58, .ref 93, .int x4, v5, v6] (.int v :: []) mu' (n + nc')) :
    J l G X Q 7 476 [.ref 2000, .ref 0, .ref 58, .ref 93, .int x4, v5, v6] [.int y0, .int y1, .int y2, .ref 0] mu n :=
  J_callL (As := [.ref 0, .int y2, .int y1, .int y0]) (rest := []) h dL_law_476 hM (jgL w630 w631 w75 w632) nmL_input rfl hh (Nat.le_of_ble_eq_true rfl) rfl hn kk
theorem rL_law_524 {l : Launch} {G : jG} {X : jX} {Q : State → Prop} {n hg nc : Nat} {ret : Option FieldType} {mu : jM} {L : Nat} {xs : Nat → Int32} {x4 : Int32} {v5 : Value} {v6 : Value} {y0 : Int32} {Qc : Int32 → jM → Prop} {h' nc' : Nat} (h : jOk l G X cL_law 7 ret RL hg nc) (hsc : jScr G X L xs) (hM : jL l G yL_lockstep cL_lockstep 3 h' nc' hL_lockstep [.ref 0, .int y0] mu Qc) (hh : h' < hg ∧ 3 ≤ 21) (hn : n + nc' ≤ nc)
    (kk : ∀ v mu', Qc v mu' → J l G X Q 7 527 [.ref 2000, .ref 0, .ref 58, .ref 93, .int x4, v5, v6] (.int v :: []) mu' (n + nc')) :
    J l G X Q 7 524 [.ref 2000, .ref 0, .ref 58, .ref 93, .int x4, v5, v6] [.int y0, .ref 0] mu n :=
  J_callL (As := [.ref 0, .int y0]) (rest := []) h dL_law_524 hM (jgL w657 w658 w75 w659) nmL_lockstep rfl hh (Nat.le_of_ble_eq_true rfl) rfl hn kk
theorem rL_law_567 {l : Launch} {G : jG} {X : jX} {Q : State → Prop} {n hg nc : Nat} {ret : Option FieldType} {mu : jM} {L : Nat} {xs : Nat → Int32} {x4 : Int32} {v5 : Value} {v6 : Value} {y1 : Int32} {y2 : Int32} {Qc : Int32 → jM → Prop} {h' nc' : Nat} (h : jOk l G X cL_law 7 ret RL hg nc) (hsc : jScr G X L xs) (hM : jL l G yL_plain cL_plain 5 h' nc' hL_plain [.ref 0, .int y2, .int y1, .ref 93] mu Qc) (hh : h' < hg ∧ 5 ≤ 21) (hn : n + nc' ≤ nc)
    (kk : ∀ v mu', Qc v mu' → J l G X Q 7 570 [.ref 2000, .ref 0, .ref 58, .ref 93, .int x4, v5, v6] (.int v :: []) mu' (n + nc')) :
    J l G X Q 7 567 [.ref 2000, .ref 0, .ref 58, .ref 93, .int x4, v5, v6] [.ref 93, .int y1, .int y2, .ref 0] mu n :=
  J_callL (As := [.ref 0, .int y2, .int y1, .ref 93]) (rest := []) h dL_law_567 hM (jgL w710 w711 w75 w712) nmL_plain rfl hh (Nat.le_of_ble_eq_true rfl) rfl hn kk
theorem rL_law_635 {l : Launch} {G : jG} {X : jX} {Q : State → Prop} {n hg nc : Nat} {ret : Option FieldType} {mu : jM} {L : Nat} {xs : Nat → Int32} {x4 : Int32} {v5 : Value} {v6 : Value} {y1 : Int32} {y2 : Int32} {Qc : Int32 → jM → Prop} {h' nc' : Nat} (h : jOk l G X cL_law 7 ret RL hg nc) (hsc : jScr G X L xs) (hM : jL l G yL_prepare cL_prepare 5 h' nc' hL_prepare [.ref 0, .int y2, .int y1, .ref 93] mu Qc) (hh : h' < hg ∧ 5 ≤ 21) (hn : n + nc' ≤ nc)
    (kk : ∀ v mu', Qc v mu' → J l G X Q 7 638 [.ref 2000, .ref 0, .ref 58, .ref 93, .int x4, v5, v6] (.int v :: []) mu' (n + nc')) :
    J l G X Q 7 635 [.ref 2000, .ref 0, .ref 58, .ref 93, .int x4, v5, v6] [.ref 93, .int y1, .int y2, .ref 0] mu n :=
  J_callL (As := [.ref 0, .int y2, .int y1, .ref 93]) (rest := []) h dL_law_635 hM (jgL w717 w718 w75 w719) nmL_prepare rfl hh (Nat.le_of_ble_eq_true rfl) rfl hn kk
theorem rL_law_690 {l : Launch} {G : jG} {X : jX} {Q : State → Prop} {n hg nc : Nat} {ret : Option FieldType} {mu : jM} {L : Nat} {xs : Nat → Int32} {x4 : Int32} {v5 : Value} {v6 : Value} {Qc : Int32 → jM → Prop} {h' nc' : Nat} (h : jOk l G X cL_law 7 ret RL hg nc) (hsc : jScr G X L xs) (hM : jL l G yL_release cL_release 2 h' nc' hL_release [.ref 0] mu Qc) (hh : h' < hg ∧ 2 ≤ 21) (hn : n + nc' ≤ nc)
    (kk : ∀ v mu', Qc v mu' → J l G X Q 7 693 [.ref 2000, .ref 0, .ref 58, .ref 93, .int x4, v5, v6] (.int v :: []) mu' (n + nc')) :
    J l G X Q 7 690 [.ref 2000, .ref 0, .ref 58, .ref 93, .int x4, v5, v6] [.ref 0] mu n :=
  J_callL (As := [.ref 0]) (rest := []) h dL_law_690 hM (jgL w786 w787 w75 w788) nmL_release rfl hh (Nat.le_of_ble_eq_true rfl) rfl hn kk
theorem rL_law_720 {l : Launch} {G : jG} {X : jX} {Q : State → Prop} {n hg nc : Nat} {ret : Option FieldType} {mu : jM} {L : Nat} {xs : Nat → Int32} {x4 : Int32} {v5 : Value} {v6 : Value} {y0 : Int32} {Qc : Int32 → jM → Prop} {h' nc' : Nat} (h : jOk l G X cL_law 7 ret RL hg nc) (hsc : jScr G X L xs) (hM : jL l G yL_stopAt cL_stopAt 3 h' nc' hL_stopAt [.ref 0, .int y0] mu Qc) (hh : h' < hg ∧ 3 ≤ 21) (hn : n + nc' ≤ nc)
    (kk : ∀ v mu', Qc v mu' → J l G X Q 7 723 [.ref 2000, .ref 0, .ref 58, .ref 93, .int x4, v5, v6] (.int v :: []) mu' (n + nc')) :
    J l G X Q 7 720 [.ref 2000, .ref 0, .ref 58, .ref 93, .int x4, v5, v6] [.int y0, .ref 0] mu n :=
  J_callL (As := [.ref 0, .int y0]) (rest := []) h dL_law_720 hM (jgL w798 w799 w75 w800) nmL_stopAt rfl hh (Nat.le_of_ble_eq_true rfl) rfl hn kk
theorem rL_law_750 {l : Launch} {G : jG} {X : jX} {Q : State → Prop} {n hg nc : Nat} {ret : Option FieldType} {mu : jM} {L : Nat} {xs : Nat → Int32} {x4 : Int32} {v5 : Value} {v6 : Value} {Qc : Int32 → jM → Prop} {h' : Nat} (h : jOk l G X cL_law 7 ret RL hg nc) (hsc : jScr G X L xs) (hM : jCi l G yX7_letters cX7_letters 1 h' (some .int) (.ref 0 :: []) mu Qc) (hh : h' < hg ∧ 1 ≤ 21) (hn : n ≤ nc)
    (kk : ∀ v mu', Qc v mu' → J l G X Q 7 753 [.ref 2000, .ref 0, .ref 58, .ref 93, .int x4, v5, v6] (.int v :: []) mu' n) :
    J l G X Q 7 750 [.ref 2000, .ref 0, .ref 58, .ref 93, .int x4, v5, v6] [.ref 0] mu n :=
  J_callVi (As := []) (rest := []) h dL_law_750 hM (jgV w406 w407 w408 w76 w409) rfl (ci := 7) rfl rfl nmX7_letters rfl hh (Nat.le_of_ble_eq_true rfl) rfl kk hn
theorem rL_law_776 {l : Launch} {G : jG} {X : jX} {Q : State → Prop} {n hg nc : Nat} {ret : Option FieldType} {mu : jM} {L : Nat} {xs : Nat → Int32} {x4 : Int32} {v5 : Value} {v6 : Value} {y1 : Int32} {y2 : Int32} {Qc : Int32 → jM → Prop} {h' nc' : Nat} (h : jOk l G X cL_law 7 ret RL hg nc) (hsc : jScr G X L xs) (hM : jL l G yL_letter cL_letter 5 h' nc' hL_letter [.ref 0, .int y2, .int y1, .ref 93] mu Qc) (hh : h' < hg ∧ 5 ≤ 21) (hn : n + nc' ≤ nc)
    (kk : ∀ v mu', Qc v mu' → J l G X Q 7 779 [.ref 2000, .ref 0, .ref 58, .ref 93, .int x4, v5, v6] (.int v :: []) mu' (n + nc')) :
    J l G X Q 7 776 [.ref 2000, .ref 0, .ref 58, .ref 93, .int x4, v5, v6] [.ref 93, .int y1, .int y2, .ref 0] mu n :=
  J_callL (As := [.ref 0, .int y2, .int y1, .ref 93]) (rest := []) h dL_law_776 hM (jgL w879 w880 w75 w881) nmL_letter rfl hh (Nat.le_of_ble_eq_true rfl) rfl hn kk
theorem rL_law_838 {l : Launch} {G : jG} {X : jX} {Q : State → Prop} {n hg nc : Nat} {ret : Option FieldType} {mu : jM} {L : Nat} {xs : Nat → Int32} {x4 : Int32} {v5 : Value} {v6 : Value} {y1 : Int32} {Qc : Int32 → jM → Prop} {h' nc' : Nat} (h : jOk l G X cL_law 7 ret RL hg nc) (hsc : jScr G X L xs) (hM : jL l G yL_deliver cL_deliver 4 h' nc' hL_deliver [.ref 0, .int y1, .ref 93] mu Qc) (hh : h' < hg ∧ 4 ≤ 21) (hn : n + nc' ≤ nc)
    (kk : ∀ v mu', Qc v mu' → J l G X Q 7 841 [.ref 2000, .ref 0, .ref 58, .ref 93, .int x4, v5, v6] (.int v :: []) mu' (n + nc')) :
    J l G X Q 7 838 [.ref 2000, .ref 0, .ref 58, .ref 93, .int x4, v5, v6] [.ref 93, .int y1, .ref 0] mu n :=
  J_callL (As := [.ref 0, .int y1, .ref 93]) (rest := []) h dL_law_838 hM (jgL w892 w893 w75 w894) nmL_deliver rfl hh (Nat.le_of_ble_eq_true rfl) rfl hn kk
theorem rL_law_906 {l : Launch} {G : jG} {X : jX} {Q : State → Prop} {n hg nc : Nat} {ret : Option FieldType} {mu : jM} {L : Nat} {xs : Nat → Int32} {x4 : Int32} {v5 : Value} {v6 : Value} {y1 : Int32} {y2 : Int32} {y3 : Int32} {Qc : Int32 → jM → Prop} {h' nc' : Nat} (h : jOk l G X cL_law 7 ret RL hg nc) (hsc : jScr G X L xs) (hM : jL l G yL_deliverAll cL_deliverAll 6 h' nc' hL_deliverAll [.ref 0, .int y3, .int y2, .int y1, .ref 93] mu Qc) (hh : h' < hg ∧ 6 ≤ 21) (hn : n + nc' ≤ nc)
    (kk : ∀ v mu', Qc v mu' → J l G X Q 7 909 [.ref 2000, .ref 0, .ref 58, .ref 93, .int x4, v5, v6] (.int v :: []) mu' (n + nc')) :
    J l G X Q 7 906 [.ref 2000, .ref 0, .ref 58, .ref 93, .int x4, v5, v6] [.ref 93, .int y1, .int y2, .int y3, .ref 0] mu n :=
  J_callL (As := [.ref 0, .int y3, .int y2, .int y1, .ref 93]) (rest := []) h dL_law_906 hM (jgL w910 w911 w75 w912) nmL_deliverAll rfl hh (Nat.le_of_ble_eq_true rfl) rfl hn kk
theorem rL_law_974 {l : Launch} {G : jG} {X : jX} {Q : State → Prop} {n hg nc : Nat} {ret : Option FieldType} {mu : jM} {L : Nat} {xs : Nat → Int32} {x4 : Int32} {v5 : Value} {v6 : Value} {y1 : Int32} {Qc : Int32 → jM → Prop} {h' nc' : Nat} (h : jOk l G X cL_law 7 ret RL hg nc) (hsc : jScr G X L xs) (hM : jL l G yL_switchTo cL_switchTo 4 h' nc' hL_switchTo [.ref 0, .int y1, .ref 93] mu Qc) (hh : h' < hg ∧ 4 ≤ 21) (hn : n + nc' ≤ nc)
    (kk : ∀ v mu', Qc v mu' → J l G X Q 7 977 [.ref 2000, .ref 0, .ref 58, .ref 93, .int x4, v5, v6] (.int v :: []) mu' (n + nc')) :
    J l G X Q 7 974 [.ref 2000, .ref 0, .ref 58, .ref 93, .int x4, v5, v6] [.ref 93, .int y1, .ref 0] mu n :=
  J_callL (As := [.ref 0, .int y1, .ref 93]) (rest := []) h dL_law_974 hM (jgL w919 w920 w75 w921) nmL_switchTo rfl hh (Nat.le_of_ble_eq_true rfl) rfl hn kk
theorem rL_law_1030 {l : Launch} {G : jG} {X : jX} {Q : State → Prop} {n hg nc : Nat} {ret : Option FieldType} {mu : jM} {L : Nat} {xs : Nat → Int32} {x4 : Int32} {v5 : Value} {v6 : Value} {y1 : Int32} {Qc : Int32 → jM → Prop} {h' nc' : Nat} (h : jOk l G X cL_law 7 ret RL hg nc) (hsc : jScr G X L xs) (hM : jL l G yL_roundOf cL_roundOf 4 h' nc' hL_roundOf [.ref 0, .int y1, .ref 93] mu Qc) (hh : h' < hg ∧ 4 ≤ 21) (hn : n + nc' ≤ nc)
    (kk : ∀ v mu', Qc v mu' → J l G X Q 7 1033 [.ref 2000, .ref 0, .ref 58, .ref 93, .int x4, v5, v6] (.int v :: []) mu' (n + nc')) :
    J l G X Q 7 1030 [.ref 2000, .ref 0, .ref 58, .ref 93, .int x4, v5, v6] [.ref 93, .int y1, .ref 0] mu n :=
  J_callL (As := [.ref 0, .int y1, .ref 93]) (rest := []) h dL_law_1030 hM (jgL w936 w937 w75 w938) nmL_roundOf rfl hh (Nat.le_of_ble_eq_true rfl) rfl hn kk
theorem rL_law_1092 {l : Launch} {G : jG} {X : jX} {Q : State → Prop} {n hg nc : Nat} {ret : Option FieldType} {mu : jM} {L : Nat} {xs : Nat → Int32} {x4 : Int32} {v5 : Value} {v6 : Value} {y1 : Int32} {y2 : Int32} {Qc : Int32 → jM → Prop} {h' nc' : Nat} (h : jOk l G X cL_law 7 ret RL hg nc) (hsc : jScr G X L xs) (hM : jL l G yL_value cL_value 5 h' nc' hL_value [.ref 0, .int y2, .int y1, .ref 93] mu Qc) (hh : h' < hg ∧ 5 ≤ 21) (hn : n + nc' ≤ nc)
    (kk : ∀ v mu', Qc v mu' → J l G X Q 7 1095 [.ref 2000, .ref 0, .ref 58, .ref 93, .int x4, v5, v6] (.int v :: []) mu' (n + nc')) :
    J l G X Q 7 1092 [.ref 2000, .ref 0, .ref 58, .ref 93, .int x4, v5, v6] [.ref 93, .int y1, .int y2, .ref 0] mu n :=
  J_callL (As := [.ref 0, .int y2, .int y1, .ref 93]) (rest := []) h dL_law_1092 hM (jgL w943 w944 w75 w945) nmL_value rfl hh (Nat.le_of_ble_eq_true rfl) rfl hn kk
theorem rL_law_1160 {l : Launch} {G : jG} {X : jX} {Q : State → Prop} {n hg nc : Nat} {ret : Option FieldType} {mu : jM} {L : Nat} {xs : Nat → Int32} {x4 : Int32} {v5 : Value} {v6 : Value} {y1 : Int32} {y2 : Int32} {Qc : Int32 → jM → Prop} {h' nc' : Nat} (h : jOk l G X cL_law 7 ret RL hg nc) (hsc : jScr G X L xs) (hM : jL l G yL_place cL_place 5 h' nc' hL_place [.ref 0, .int y2, .int y1, .ref 93] mu Qc) (hh : h' < hg ∧ 5 ≤ 21) (hn : n + nc' ≤ nc)
    (kk : ∀ v mu', Qc v mu' → J l G X Q 7 1163 [.ref 2000, .ref 0, .ref 58, .ref 93, .int x4, v5, v6] (.int v :: []) mu' (n + nc')) :
    J l G X Q 7 1160 [.ref 2000, .ref 0, .ref 58, .ref 93, .int x4, v5, v6] [.ref 93, .int y1, .int y2, .ref 0] mu n :=
  J_callL (As := [.ref 0, .int y2, .int y1, .ref 93]) (rest := []) h dL_law_1160 hM (jgL w950 w951 w75 w952) nmL_place rfl hh (Nat.le_of_ble_eq_true rfl) rfl hn kk
theorem rL_law_1228 {l : Launch} {G : jG} {X : jX} {Q : State → Prop} {n hg nc : Nat} {ret : Option FieldType} {mu : jM} {L : Nat} {xs : Nat → Int32} {x4 : Int32} {v5 : Value} {v6 : Value} {y1 : Int32} {y2 : Int32} {Qc : Int32 → jM → Prop} {h' nc' : Nat} (h : jOk l G X cL_law 7 ret RL hg nc) (hsc : jScr G X L xs) (hM : jL l G yL_chosen cL_chosen 5 h' nc' hL_chosen [.ref 0, .int y2, .int y1, .ref 93] mu Qc) (hh : h' < hg ∧ 5 ≤ 21) (hn : n + nc' ≤ nc)
    (kk : ∀ v mu', Qc v mu' → J l G X Q 7 1231 [.ref 2000, .ref 0, .ref 58, .ref 93, .int x4, v5, v6] (.int v :: []) mu' (n + nc')) :
    J l G X Q 7 1228 [.ref 2000, .ref 0, .ref 58, .ref 93, .int x4, v5, v6] [.ref 93, .int y1, .int y2, .ref 0] mu n :=
  J_callL (As := [.ref 0, .int y2, .int y1, .ref 93]) (rest := []) h dL_law_1228 hM (jgL w958 w959 w75 w960) nmL_chosen rfl hh (Nat.le_of_ble_eq_true rfl) rfl hn kk
theorem rL_law_1290 {l : Launch} {G : jG} {X : jX} {Q : State → Prop} {n hg nc : Nat} {ret : Option FieldType} {mu : jM} {L : Nat} {xs : Nat → Int32} {x4 : Int32} {v5 : Value} {v6 : Value} {y1 : Int32} {Qc : Int32 → jM → Prop} {h' nc' : Nat} (h : jOk l G X cL_law 7 ret RL hg nc) (hsc : jScr G X L xs) (hM : jL l G yL_count cL_count 4 h' nc' hL_count [.ref 0, .int y1, .ref 93] mu Qc) (hh : h' < hg ∧ 4 ≤ 21) (hn : n + nc' ≤ nc)
    (kk : ∀ v mu', Qc v mu' → J l G X Q 7 1293 [.ref 2000, .ref 0, .ref 58, .ref 93, .int x4, v5, v6] (.int v :: []) mu' (n + nc')) :
    J l G X Q 7 1290 [.ref 2000, .ref 0, .ref 58, .ref 93, .int x4, v5, v6] [.ref 93, .int y1, .ref 0] mu n :=
  J_callL (As := [.ref 0, .int y1, .ref 93]) (rest := []) h dL_law_1290 hM (jgL w970 w971 w75 w972) nmL_count rfl hh (Nat.le_of_ble_eq_true rfl) rfl hn kk
theorem rL_law_154 {l : Launch} {G : jG} {X : jX} {Q : State → Prop} {n hg nc : Nat} {ret : Option FieldType} {mu : jM} {L : Nat} {xs : Nat → Int32} {x4 : Int32} {v5 : Value} {v6 : Value} {y0 : Int32} (h : jOk l G X cL_law 7 ret RL hg nc) (hsc : jScr G X L xs) (s1 : vp_in (x4 + 1) L)
    (k2 : J l G X Q 7 163 [.ref 2000, .ref 0, .ref 58, .ref 93, .int x4, .int y0, v6] [.int (xs ((x4 + 1)).toNatClampNeg), .ref 58] mu n) :
    J l G X Q 7 154 [.ref 2000, .ref 0, .ref 58, .ref 93, .int x4, v5, v6] [.int y0] mu n := by
  refine J_istore h dL_law_154 (by decide) rfl ?_
  show J l G X Q 7 156 [.ref 2000, .ref 0, .ref 58, .ref 93, .int x4, .int y0, v6] [] mu n
  refine J_aload_n h dL_law_156 rfl rfl ?_
  refine J_aload_n h dL_law_157 rfl rfl ?_
  refine J_iload h dL_law_158 rfl ?_
  refine J_iconst h dL_law_160 ci_1 ?_
  refine J_iadd h dL_law_161 ?_
  refine J_xald h dL_law_162 hsc (s1) ?_
  exact k2
theorem rL_law_197 {l : Launch} {G : jG} {X : jX} {Q : State → Prop} {n hg nc : Nat} {ret : Option FieldType} {mu : jM} {L : Nat} {xs : Nat → Int32} {x4 : Int32} {v5 : Value} {v6 : Value} {y0 : Int32} (h : jOk l G X cL_law 7 ret RL hg nc) (hsc : jScr G X L xs) (s1 : vp_in (x4 + 1) L) (s2 : vp_in (x4 + 2) L)
    (k3 : J l G X Q 7 212 [.ref 2000, .ref 0, .ref 58, .ref 93, .int x4, .int y0, v6] [.int (xs ((x4 + 2)).toNatClampNeg), .int (xs ((x4 + 1)).toNatClampNeg), .ref 58] mu n) :
    J l G X Q 7 197 [.ref 2000, .ref 0, .ref 58, .ref 93, .int x4, v5, v6] [.int y0] mu n := by
  refine J_istore h dL_law_197 (by decide) rfl ?_
  show J l G X Q 7 199 [.ref 2000, .ref 0, .ref 58, .ref 93, .int x4, .int y0, v6] [] mu n
  refine J_aload_n h dL_law_199 rfl rfl ?_
  refine J_aload_n h dL_law_200 rfl rfl ?_
  refine J_iload h dL_law_201 rfl ?_
  refine J_iconst h dL_law_203 ci_1 ?_
  refine J_iadd h dL_law_204 ?_
  refine J_xald h dL_law_205 hsc (s1) ?_
  refine J_aload_n h dL_law_206 rfl rfl ?_
  refine J_iload h dL_law_207 rfl ?_
  refine J_iconst h dL_law_209 ci_2 ?_
  refine J_iadd h dL_law_210 ?_
  refine J_xald h dL_law_211 hsc (s2) ?_
  exact k3
theorem rL_law_283 {l : Launch} {G : jG} {X : jX} {Q : State → Prop} {n hg nc : Nat} {ret : Option FieldType} {mu : jM} {L : Nat} {xs : Nat → Int32} {x4 : Int32} {v5 : Value} {v6 : Value} {y0 : Int32} (h : jOk l G X cL_law 7 ret RL hg nc) (hsc : jScr G X L xs) (s1 : vp_in (x4 + 1) L) (s2 : vp_in (x4 + 2) L) (s3 : vp_in (x4 + 3) L) (s4 : vp_in (x4 + 4) L) (s5 : vp_in (x4 + 5) L)
    (k6 : J l G X Q 7 316 [.ref 2000, .ref 0, .ref 58, .ref 93, .int x4, .int y0, v6] [.int (xs ((x4 + 5)).toNatClampNeg), .int (xs ((x4 + 4)).toNatClampNeg), .int (xs ((x4 + 3)).toNatClampNeg), .int (xs ((x4 + 2)).toNatClampNeg), .int (xs ((x4 + 1)).toNatClampNeg), .ref 58] mu n) :
    J l G X Q 7 283 [.ref 2000, .ref 0, .ref 58, .ref 93, .int x4, v5, v6] [.int y0] mu n := by
  refine J_istore h dL_law_283 (by decide) rfl ?_
  show J l G X Q 7 285 [.ref 2000, .ref 0, .ref 58, .ref 93, .int x4, .int y0, v6] [] mu n
  refine J_aload_n h dL_law_285 rfl rfl ?_
  refine J_aload_n h dL_law_286 rfl rfl ?_
  refine J_iload h dL_law_287 rfl ?_
  refine J_iconst h dL_law_289 ci_1 ?_
  refine J_iadd h dL_law_290 ?_
  refine J_xald h dL_law_291 hsc (s1) ?_
  refine J_aload_n h dL_law_292 rfl rfl ?_
  refine J_iload h dL_law_293 rfl ?_
  refine J_iconst h dL_law_295 ci_2 ?_
  refine J_iadd h dL_law_296 ?_
  refine J_xald h dL_law_297 hsc (s2) ?_
  refine J_aload_n h dL_law_298 rfl rfl ?_
  refine J_iload h dL_law_299 rfl ?_
  refine J_iconst h dL_law_301 ci_3 ?_
  refine J_iadd h dL_law_302 ?_
  refine J_xald h dL_law_303 hsc (s3) ?_
  refine J_aload_n h dL_law_304 rfl rfl ?_
  refine J_iload h dL_law_305 rfl ?_
  refine J_iconst h dL_law_307 ci_4 ?_
  refine J_iadd h dL_law_308 ?_
  refine J_xald h dL_law_309 hsc (s4) ?_
  refine J_aload_n h dL_law_310 rfl rfl ?_
  refine J_iload h dL_law_311 rfl ?_
  refine J_iconst h dL_law_313 ci_5 ?_
  refine J_iadd h dL_law_314 ?_
  refine J_xald h dL_law_315 hsc (s5) ?_
  exact k6
theorem rL_law_363 {l : Launch} {G : jG} {X : jX} {Q : State → Prop} {n hg nc : Nat} {ret : Option FieldType} {mu : jM} {L : Nat} {xs : Nat → Int32} {x4 : Int32} {v5 : Value} {v6 : Value} {y0 : Int32} (h : jOk l G X cL_law 7 ret RL hg nc) (hsc : jScr G X L xs) (s1 : vp_in (x4 + 1) L)
    (k2 : J l G X Q 7 372 [.ref 2000, .ref 0, .ref 58, .ref 93, .int x4, .int y0, v6] [.int (xs ((x4 + 1)).toNatClampNeg), .ref 58] mu n) :
    J l G X Q 7 363 [.ref 2000, .ref 0, .ref 58, .ref 93, .int x4, v5, v6] [.int y0] mu n := by
  refine J_istore h dL_law_363 (by decide) rfl ?_
  show J l G X Q 7 365 [.ref 2000, .ref 0, .ref 58, .ref 93, .int x4, .int y0, v6] [] mu n
  refine J_aload_n h dL_law_365 rfl rfl ?_
  refine J_aload_n h dL_law_366 rfl rfl ?_
  refine J_iload h dL_law_367 rfl ?_
  refine J_iconst h dL_law_369 ci_1 ?_
  refine J_iadd h dL_law_370 ?_
  refine J_xald h dL_law_371 hsc (s1) ?_
  exact k2
theorem rL_law_418 {l : Launch} {G : jG} {X : jX} {Q : State → Prop} {n hg nc : Nat} {ret : Option FieldType} {mu : jM} {L : Nat} {xs : Nat → Int32} {x4 : Int32} {v5 : Value} {v6 : Value} {y0 : Int32} (h : jOk l G X cL_law 7 ret RL hg nc) (hsc : jScr G X L xs) (s1 : vp_in (x4 + 1) L)
    (k2 : J l G X Q 7 427 [.ref 2000, .ref 0, .ref 58, .ref 93, .int x4, .int y0, v6] [.int (xs ((x4 + 1)).toNatClampNeg), .ref 58] mu n) :
    J l G X Q 7 418 [.ref 2000, .ref 0, .ref 58, .ref 93, .int x4, v5, v6] [.int y0] mu n := by
  refine J_istore h dL_law_418 (by decide) rfl ?_
  show J l G X Q 7 420 [.ref 2000, .ref 0, .ref 58, .ref 93, .int x4, .int y0, v6] [] mu n
  refine J_aload_n h dL_law_420 rfl rfl ?_
  refine J_aload_n h dL_law_421 rfl rfl ?_
  refine J_iload h dL_law_422 rfl ?_
  refine J_iconst h dL_law_424 ci_1 ?_
  refine J_iadd h dL_law_425 ?_
  refine J_xald h dL_law_426 hsc (s1) ?_
  exact k2
theorem rL_law_448 {l : Launch} {G : jG} {X : jX} {Q : State → Prop} {n hg nc : Nat} {ret : Option FieldType} {mu : jM} {L : Nat} {xs : Nat → Int32} {x4 : Int32} {v5 : Value} {v6 : Value} {y0 : Int32} (h : jOk l G X cL_law 7 ret RL hg nc) (hsc : jScr G X L xs)
    (k1 : J l G X Q 7 449 [.ref 2000, .ref 0, .ref 58, .ref 93, .int x4, v5, v6] [.ref 58, .int y0] mu n) :
    J l G X Q 7 448 [.ref 2000, .ref 0, .ref 58, .ref 93, .int x4, v5, v6] [.int y0] mu n := by
  refine J_aload_n h dL_law_448 rfl rfl ?_
  exact k1
theorem rL_law_479 {l : Launch} {G : jG} {X : jX} {Q : State → Prop} {n hg nc : Nat} {ret : Option FieldType} {mu : jM} {L : Nat} {xs : Nat → Int32} {x4 : Int32} {v5 : Value} {v6 : Value} {y0 : Int32} (h : jOk l G X cL_law 7 ret RL hg nc) (hsc : jScr G X L xs) (s1 : vp_in (x4 + 1) L) (s2 : vp_in (x4 + 2) L) (s3 : vp_in (x4 + 3) L)
    (k4 : J l G X Q 7 500 [.ref 2000, .ref 0, .ref 58, .ref 93, .int x4, .int y0, v6] [.int (xs ((x4 + 3)).toNatClampNeg), .int (xs ((x4 + 2)).toNatClampNeg), .int (xs ((x4 + 1)).toNatClampNeg), .ref 58] mu n) :
    J l G X Q 7 479 [.ref 2000, .ref 0, .ref 58, .ref 93, .int x4, v5, v6] [.int y0] mu n := by
  refine J_istore h dL_law_479 (by decide) rfl ?_
  show J l G X Q 7 481 [.ref 2000, .ref 0, .ref 58, .ref 93, .int x4, .int y0, v6] [] mu n
  refine J_aload_n h dL_law_481 rfl rfl ?_
  refine J_aload_n h dL_law_482 rfl rfl ?_
  refine J_iload h dL_law_483 rfl ?_
  refine J_iconst h dL_law_485 ci_1 ?_
  refine J_iadd h dL_law_486 ?_
  refine J_xald h dL_law_487 hsc (s1) ?_
  refine J_aload_n h dL_law_488 rfl rfl ?_
  refine J_iload h dL_law_489 rfl ?_
  refine J_iconst h dL_law_491 ci_2 ?_
  refine J_iadd h dL_law_492 ?_
  refine J_xald h dL_law_493 hsc (s2) ?_
  refine J_aload_n h dL_law_494 rfl rfl ?_
  refine J_iload h dL_law_495 rfl ?_
  refine J_iconst h dL_law_497 ci_3 ?_
  refine J_iadd h dL_law_498 ?_
  refine J_xald h dL_law_499 hsc (s3) ?_
  exact k4
theorem rL_law_527 {l : Launch} {G : jG} {X : jX} {Q : State → Prop} {n hg nc : Nat} {ret : Option FieldType} {mu : jM} {L : Nat} {xs : Nat → Int32} {x4 : Int32} {v5 : Value} {v6 : Value} {y0 : Int32} (h : jOk l G X cL_law 7 ret RL hg nc) (hsc : jScr G X L xs) (s1 : vp_in (x4 + 1) L)
    (k2 : J l G X Q 7 536 [.ref 2000, .ref 0, .ref 58, .ref 93, .int x4, .int y0, v6] [.int (xs ((x4 + 1)).toNatClampNeg), .ref 58] mu n) :
    J l G X Q 7 527 [.ref 2000, .ref 0, .ref 58, .ref 93, .int x4, v5, v6] [.int y0] mu n := by
  refine J_istore h dL_law_527 (by decide) rfl ?_
  show J l G X Q 7 529 [.ref 2000, .ref 0, .ref 58, .ref 93, .int x4, .int y0, v6] [] mu n
  refine J_aload_n h dL_law_529 rfl rfl ?_
  refine J_aload_n h dL_law_530 rfl rfl ?_
  refine J_iload h dL_law_531 rfl ?_
  refine J_iconst h dL_law_533 ci_1 ?_
  refine J_iadd h dL_law_534 ?_
  refine J_xald h dL_law_535 hsc (s1) ?_
  exact k2
theorem rL_law_570 {l : Launch} {G : jG} {X : jX} {Q : State → Prop} {n hg nc : Nat} {ret : Option FieldType} {mu : jM} {L : Nat} {xs : Nat → Int32} {x4 : Int32} {v5 : Value} {v6 : Value} {y0 : Int32} (h : jOk l G X cL_law 7 ret RL hg nc) (hsc : jScr G X L xs) (s1 : vp_in (x4 + 1) L) (s2 : vp_in (x4 + 2) L)
    (k3 : J l G X Q 7 585 [.ref 2000, .ref 0, .ref 58, .ref 93, .int x4, .int y0, v6] [.int (xs ((x4 + 2)).toNatClampNeg), .int (xs ((x4 + 1)).toNatClampNeg), .ref 58] mu n) :
    J l G X Q 7 570 [.ref 2000, .ref 0, .ref 58, .ref 93, .int x4, v5, v6] [.int y0] mu n := by
  refine J_istore h dL_law_570 (by decide) rfl ?_
  show J l G X Q 7 572 [.ref 2000, .ref 0, .ref 58, .ref 93, .int x4, .int y0, v6] [] mu n
  refine J_aload_n h dL_law_572 rfl rfl ?_
  refine J_aload_n h dL_law_573 rfl rfl ?_
  refine J_iload h dL_law_574 rfl ?_
  refine J_iconst h dL_law_576 ci_1 ?_
  refine J_iadd h dL_law_577 ?_
  refine J_xald h dL_law_578 hsc (s1) ?_
  refine J_aload_n h dL_law_579 rfl rfl ?_
  refine J_iload h dL_law_580 rfl ?_
  refine J_iconst h dL_law_582 ci_2 ?_
  refine J_iadd h dL_law_583 ?_
  refine J_xald h dL_law_584 hsc (s2) ?_
  exact k3
theorem rL_law_638 {l : Launch} {G : jG} {X : jX} {Q : State → Prop} {n hg nc : Nat} {ret : Option FieldType} {mu : jM} {L : Nat} {xs : Nat → Int32} {x4 : Int32} {v5 : Value} {v6 : Value} {y0 : Int32} (h : jOk l G X cL_law 7 ret RL hg nc) (hsc : jScr G X L xs) (s1 : vp_in (x4 + 1) L) (s2 : vp_in (x4 + 2) L)
    (k3 : J l G X Q 7 653 [.ref 2000, .ref 0, .ref 58, .ref 93, .int x4, .int y0, v6] [.int (xs ((x4 + 2)).toNatClampNeg), .int (xs ((x4 + 1)).toNatClampNeg), .ref 58] mu n) :
    J l G X Q 7 638 [.ref 2000, .ref 0, .ref 58, .ref 93, .int x4, v5, v6] [.int y0] mu n := by
  refine J_istore h dL_law_638 (by decide) rfl ?_
  show J l G X Q 7 640 [.ref 2000, .ref 0, .ref 58, .ref 93, .int x4, .int y0, v6] [] mu n
  refine J_aload_n h dL_law_640 rfl rfl ?_
  refine J_aload_n h dL_law_641 rfl rfl ?_
  refine J_iload h dL_law_642 rfl ?_
  refine J_iconst h dL_law_644 ci_1 ?_
  refine J_iadd h dL_law_645 ?_
  refine J_xald h dL_law_646 hsc (s1) ?_
  refine J_aload_n h dL_law_647 rfl rfl ?_
  refine J_iload h dL_law_648 rfl ?_
  refine J_iconst h dL_law_650 ci_2 ?_
  refine J_iadd h dL_law_651 ?_
  refine J_xald h dL_law_652 hsc (s2) ?_
  exact k3
theorem rL_law_693 {l : Launch} {G : jG} {X : jX} {Q : State → Prop} {n hg nc : Nat} {ret : Option FieldType} {mu : jM} {L : Nat} {xs : Nat → Int32} {x4 : Int32} {v5 : Value} {v6 : Value} {y0 : Int32} (h : jOk l G X cL_law 7 ret RL hg nc) (hsc : jScr G X L xs)
    (k1 : J l G X Q 7 696 [.ref 2000, .ref 0, .ref 58, .ref 93, .int x4, .int y0, v6] [.ref 58] mu n) :
    J l G X Q 7 693 [.ref 2000, .ref 0, .ref 58, .ref 93, .int x4, v5, v6] [.int y0] mu n := by
  refine J_istore h dL_law_693 (by decide) rfl ?_
  show J l G X Q 7 695 [.ref 2000, .ref 0, .ref 58, .ref 93, .int x4, .int y0, v6] [] mu n
  refine J_aload_n h dL_law_695 rfl rfl ?_
  exact k1
theorem rL_law_723 {l : Launch} {G : jG} {X : jX} {Q : State → Prop} {n hg nc : Nat} {ret : Option FieldType} {mu : jM} {L : Nat} {xs : Nat → Int32} {x4 : Int32} {v5 : Value} {v6 : Value} {y0 : Int32} (h : jOk l G X cL_law 7 ret RL hg nc) (hsc : jScr G X L xs) (s1 : vp_in (x4 + 1) L)
    (k2 : J l G X Q 7 732 [.ref 2000, .ref 0, .ref 58, .ref 93, .int x4, .int y0, v6] [.int (xs ((x4 + 1)).toNatClampNeg), .ref 58] mu n) :
    J l G X Q 7 723 [.ref 2000, .ref 0, .ref 58, .ref 93, .int x4, v5, v6] [.int y0] mu n := by
  refine J_istore h dL_law_723 (by decide) rfl ?_
  show J l G X Q 7 725 [.ref 2000, .ref 0, .ref 58, .ref 93, .int x4, .int y0, v6] [] mu n
  refine J_aload_n h dL_law_725 rfl rfl ?_
  refine J_aload_n h dL_law_726 rfl rfl ?_
  refine J_iload h dL_law_727 rfl ?_
  refine J_iconst h dL_law_729 ci_1 ?_
  refine J_iadd h dL_law_730 ?_
  refine J_xald h dL_law_731 hsc (s1) ?_
  exact k2
theorem rL_law_753 {l : Launch} {G : jG} {X : jX} {Q : State → Prop} {n hg nc : Nat} {ret : Option FieldType} {mu : jM} {L : Nat} {xs : Nat → Int32} {x4 : Int32} {v5 : Value} {v6 : Value} {y0 : Int32} (h : jOk l G X cL_law 7 ret RL hg nc) (hsc : jScr G X L xs)
    (k1 : J l G X Q 7 754 [.ref 2000, .ref 0, .ref 58, .ref 93, .int x4, v5, v6] [.ref 58, .int y0] mu n) :
    J l G X Q 7 753 [.ref 2000, .ref 0, .ref 58, .ref 93, .int x4, v5, v6] [.int y0] mu n := by
  refine J_aload_n h dL_law_753 rfl rfl ?_
  exact k1
theorem rL_law_779 {l : Launch} {G : jG} {X : jX} {Q : State → Prop} {n hg nc : Nat} {ret : Option FieldType} {mu : jM} {L : Nat} {xs : Nat → Int32} {x4 : Int32} {v5 : Value} {v6 : Value} {y0 : Int32} (h : jOk l G X cL_law 7 ret RL hg nc) (hsc : jScr G X L xs) (s1 : vp_in (x4 + 1) L) (s2 : vp_in (x4 + 2) L)
    (k3 : J l G X Q 7 794 [.ref 2000, .ref 0, .ref 58, .ref 93, .int x4, .int y0, v6] [.int (xs ((x4 + 2)).toNatClampNeg), .int (xs ((x4 + 1)).toNatClampNeg), .ref 58] mu n) :
    J l G X Q 7 779 [.ref 2000, .ref 0, .ref 58, .ref 93, .int x4, v5, v6] [.int y0] mu n := by
  refine J_istore h dL_law_779 (by decide) rfl ?_
  show J l G X Q 7 781 [.ref 2000, .ref 0, .ref 58, .ref 93, .int x4, .int y0, v6] [] mu n
  refine J_aload_n h dL_law_781 rfl rfl ?_
  refine J_aload_n h dL_law_782 rfl rfl ?_
  refine J_iload h dL_law_783 rfl ?_
  refine J_iconst h dL_law_785 ci_1 ?_
  refine J_iadd h dL_law_786 ?_
  refine J_xald h dL_law_787 hsc (s1) ?_
  refine J_aload_n h dL_law_788 rfl rfl ?_
  refine J_iload h dL_law_789 rfl ?_
  refine J_iconst h dL_law_791 ci_2 ?_
  refine J_iadd h dL_law_792 ?_
  refine J_xald h dL_law_793 hsc (s2) ?_
  exact k3
theorem rL_law_841 {l : Launch} {G : jG} {X : jX} {Q : State → Prop} {n hg nc : Nat} {ret : Option FieldType} {mu : jM} {L : Nat} {xs : Nat → Int32} {x4 : Int32} {v5 : Value} {v6 : Value} {y0 : Int32} (h : jOk l G X cL_law 7 ret RL hg nc) (hsc : jScr G X L xs) (s1 : vp_in (x4 + 1) L)
    (k2 : J l G X Q 7 850 [.ref 2000, .ref 0, .ref 58, .ref 93, .int x4, .int y0, v6] [.int (xs ((x4 + 1)).toNatClampNeg), .ref 58] mu n) :
    J l G X Q 7 841 [.ref 2000, .ref 0, .ref 58, .ref 93, .int x4, v5, v6] [.int y0] mu n := by
  refine J_istore h dL_law_841 (by decide) rfl ?_
  show J l G X Q 7 843 [.ref 2000, .ref 0, .ref 58, .ref 93, .int x4, .int y0, v6] [] mu n
  refine J_aload_n h dL_law_843 rfl rfl ?_
  refine J_aload_n h dL_law_844 rfl rfl ?_
  refine J_iload h dL_law_845 rfl ?_
  refine J_iconst h dL_law_847 ci_1 ?_
  refine J_iadd h dL_law_848 ?_
  refine J_xald h dL_law_849 hsc (s1) ?_
  exact k2
theorem rL_law_909 {l : Launch} {G : jG} {X : jX} {Q : State → Prop} {n hg nc : Nat} {ret : Option FieldType} {mu : jM} {L : Nat} {xs : Nat → Int32} {x4 : Int32} {v5 : Value} {v6 : Value} {y0 : Int32} (h : jOk l G X cL_law 7 ret RL hg nc) (hsc : jScr G X L xs) (s1 : vp_in (x4 + 1) L) (s2 : vp_in (x4 + 2) L) (s3 : vp_in (x4 + 3) L)
    (k4 : J l G X Q 7 930 [.ref 2000, .ref 0, .ref 58, .ref 93, .int x4, .int y0, v6] [.int (xs ((x4 + 3)).toNatClampNeg), .int (xs ((x4 + 2)).toNatClampNeg), .int (xs ((x4 + 1)).toNatClampNeg), .ref 58] mu n) :
    J l G X Q 7 909 [.ref 2000, .ref 0, .ref 58, .ref 93, .int x4, v5, v6] [.int y0] mu n := by
  refine J_istore h dL_law_909 (by decide) rfl ?_
  show J l G X Q 7 911 [.ref 2000, .ref 0, .ref 58, .ref 93, .int x4, .int y0, v6] [] mu n
  refine J_aload_n h dL_law_911 rfl rfl ?_
  refine J_aload_n h dL_law_912 rfl rfl ?_
  refine J_iload h dL_law_913 rfl ?_
  refine J_iconst h dL_law_915 ci_1 ?_
  refine J_iadd h dL_law_916 ?_
  refine J_xald h dL_law_917 hsc (s1) ?_
  refine J_aload_n h dL_law_918 rfl rfl ?_
  refine J_iload h dL_law_919 rfl ?_
  refine J_iconst h dL_law_921 ci_2 ?_
  refine J_iadd h dL_law_922 ?_
  refine J_xald h dL_law_923 hsc (s2) ?_
  refine J_aload_n h dL_law_924 rfl rfl ?_
  refine J_iload h dL_law_925 rfl ?_
  refine J_iconst h dL_law_927 ci_3 ?_
  refine J_iadd h dL_law_928 ?_
  refine J_xald h dL_law_929 hsc (s3) ?_
  exact k4
theorem rL_law_977 {l : Launch} {G : jG} {X : jX} {Q : State → Prop} {n hg nc : Nat} {ret : Option FieldType} {mu : jM} {L : Nat} {xs : Nat → Int32} {x4 : Int32} {v5 : Value} {v6 : Value} {y0 : Int32} (h : jOk l G X cL_law 7 ret RL hg nc) (hsc : jScr G X L xs) (s1 : vp_in (x4 + 1) L)
    (k2 : J l G X Q 7 986 [.ref 2000, .ref 0, .ref 58, .ref 93, .int x4, .int y0, v6] [.int (xs ((x4 + 1)).toNatClampNeg), .ref 58] mu n) :
    J l G X Q 7 977 [.ref 2000, .ref 0, .ref 58, .ref 93, .int x4, v5, v6] [.int y0] mu n := by
  refine J_istore h dL_law_977 (by decide) rfl ?_
  show J l G X Q 7 979 [.ref 2000, .ref 0, .ref 58, .ref 93, .int x4, .int y0, v6] [] mu n
  refine J_aload_n h dL_law_979 rfl rfl ?_
  refine J_aload_n h dL_law_980 rfl rfl ?_
  refine J_iload h dL_law_981 rfl ?_
  refine J_iconst h dL_law_983 ci_1 ?_
  refine J_iadd h dL_law_984 ?_
  refine J_xald h dL_law_985 hsc (s1) ?_
  exact k2
theorem rL_law_1033 {l : Launch} {G : jG} {X : jX} {Q : State → Prop} {n hg nc : Nat} {ret : Option FieldType} {mu : jM} {L : Nat} {xs : Nat → Int32} {x4 : Int32} {v5 : Value} {v6 : Value} {y0 : Int32} (h : jOk l G X cL_law 7 ret RL hg nc) (hsc : jScr G X L xs) (s1 : vp_in (x4 + 1) L)
    (k2 : J l G X Q 7 1042 [.ref 2000, .ref 0, .ref 58, .ref 93, .int x4, .int y0, v6] [.int (xs ((x4 + 1)).toNatClampNeg), .ref 58] mu n) :
    J l G X Q 7 1033 [.ref 2000, .ref 0, .ref 58, .ref 93, .int x4, v5, v6] [.int y0] mu n := by
  refine J_istore h dL_law_1033 (by decide) rfl ?_
  show J l G X Q 7 1035 [.ref 2000, .ref 0, .ref 58, .ref 93, .int x4, .int y0, v6] [] mu n
  refine J_aload_n h dL_law_1035 rfl rfl ?_
  refine J_aload_n h dL_law_1036 rfl rfl ?_
  refine J_iload h dL_law_1037 rfl ?_
  refine J_iconst h dL_law_1039 ci_1 ?_
  refine J_iadd h dL_law_1040 ?_
  refine J_xald h dL_law_1041 hsc (s1) ?_
  exact k2
theorem rL_law_1095 {l : Launch} {G : jG} {X : jX} {Q : State → Prop} {n hg nc : Nat} {ret : Option FieldType} {mu : jM} {L : Nat} {xs : Nat → Int32} {x4 : Int32} {v5 : Value} {v6 : Value} {y0 : Int32} (h : jOk l G X cL_law 7 ret RL hg nc) (hsc : jScr G X L xs) (s1 : vp_in (x4 + 1) L) (s2 : vp_in (x4 + 2) L)
    (k3 : J l G X Q 7 1110 [.ref 2000, .ref 0, .ref 58, .ref 93, .int x4, .int y0, v6] [.int (xs ((x4 + 2)).toNatClampNeg), .int (xs ((x4 + 1)).toNatClampNeg), .ref 58] mu n) :
    J l G X Q 7 1095 [.ref 2000, .ref 0, .ref 58, .ref 93, .int x4, v5, v6] [.int y0] mu n := by
  refine J_istore h dL_law_1095 (by decide) rfl ?_
  show J l G X Q 7 1097 [.ref 2000, .ref 0, .ref 58, .ref 93, .int x4, .int y0, v6] [] mu n
  refine J_aload_n h dL_law_1097 rfl rfl ?_
  refine J_aload_n h dL_law_1098 rfl rfl ?_
  refine J_iload h dL_law_1099 rfl ?_
  refine J_iconst h dL_law_1101 ci_1 ?_
  refine J_iadd h dL_law_1102 ?_
  refine J_xald h dL_law_1103 hsc (s1) ?_
  refine J_aload_n h dL_law_1104 rfl rfl ?_
  refine J_iload h dL_law_1105 rfl ?_
  refine J_iconst h dL_law_1107 ci_2 ?_
  refine J_iadd h dL_law_1108 ?_
  refine J_xald h dL_law_1109 hsc (s2) ?_
  exact k3
theorem rL_law_1163 {l : Launch} {G : jG} {X : jX} {Q : State → Prop} {n hg nc : Nat} {ret : Option FieldType} {mu : jM} {L : Nat} {xs : Nat → Int32} {x4 : Int32} {v5 : Value} {v6 : Value} {y0 : Int32} (h : jOk l G X cL_law 7 ret RL hg nc) (hsc : jScr G X L xs) (s1 : vp_in (x4 + 1) L) (s2 : vp_in (x4 + 2) L)
    (k3 : J l G X Q 7 1178 [.ref 2000, .ref 0, .ref 58, .ref 93, .int x4, .int y0, v6] [.int (xs ((x4 + 2)).toNatClampNeg), .int (xs ((x4 + 1)).toNatClampNeg), .ref 58] mu n) :
    J l G X Q 7 1163 [.ref 2000, .ref 0, .ref 58, .ref 93, .int x4, v5, v6] [.int y0] mu n := by
  refine J_istore h dL_law_1163 (by decide) rfl ?_
  show J l G X Q 7 1165 [.ref 2000, .ref 0, .ref 58, .ref 93, .int x4, .int y0, v6] [] mu n
  refine J_aload_n h dL_law_1165 rfl rfl ?_
  refine J_aload_n h dL_law_1166 rfl rfl ?_
  refine J_iload h dL_law_1167 rfl ?_
  refine J_iconst h dL_law_1169 ci_1 ?_
  refine J_iadd h dL_law_1170 ?_
  refine J_xald h dL_law_1171 hsc (s1) ?_
  refine J_aload_n h dL_law_1172 rfl rfl ?_
  refine J_iload h dL_law_1173 rfl ?_
  refine J_iconst h dL_law_1175 ci_2 ?_
  refine J_iadd h dL_law_1176 ?_
  refine J_xald h dL_law_1177 hsc (s2) ?_
  exact k3
theorem rL_law_1231 {l : Launch} {G : jG} {X : jX} {Q : State → Prop} {n hg nc : Nat} {ret : Option FieldType} {mu : jM} {L : Nat} {xs : Nat → Int32} {x4 : Int32} {v5 : Value} {v6 : Value} {y0 : Int32} (h : jOk l G X cL_law 7 ret RL hg nc) (hsc : jScr G X L xs) (s1 : vp_in (x4 + 1) L) (s2 : vp_in (x4 + 2) L)
    (k3 : J l G X Q 7 1246 [.ref 2000, .ref 0, .ref 58, .ref 93, .int x4, .int y0, v6] [.int (xs ((x4 + 2)).toNatClampNeg), .int (xs ((x4 + 1)).toNatClampNeg), .ref 58] mu n) :
    J l G X Q 7 1231 [.ref 2000, .ref 0, .ref 58, .ref 93, .int x4, v5, v6] [.int y0] mu n := by
  refine J_istore h dL_law_1231 (by decide) rfl ?_
  show J l G X Q 7 1233 [.ref 2000, .ref 0, .ref 58, .ref 93, .int x4, .int y0, v6] [] mu n
  refine J_aload_n h dL_law_1233 rfl rfl ?_
  refine J_aload_n h dL_law_1234 rfl rfl ?_
  refine J_iload h dL_law_1235 rfl ?_
  refine J_iconst h dL_law_1237 ci_1 ?_
  refine J_iadd h dL_law_1238 ?_
  refine J_xald h dL_law_1239 hsc (s1) ?_
  refine J_aload_n h dL_law_1240 rfl rfl ?_
  refine J_iload h dL_law_1241 rfl ?_
  refine J_iconst h dL_law_1243 ci_2 ?_
  refine J_iadd h dL_law_1244 ?_
  refine J_xald h dL_law_1245 hsc (s2) ?_
  exact k3
theorem rL_law_1293 {l : Launch} {G : jG} {X : jX} {Q : State → Prop} {n hg nc : Nat} {ret : Option FieldType} {mu : jM} {L : Nat} {xs : Nat → Int32} {x4 : Int32} {v5 : Value} {v6 : Value} {y0 : Int32} (h : jOk l G X cL_law 7 ret RL hg nc) (hsc : jScr G X L xs) (s1 : vp_in (x4 + 1) L)
    (k2 : J l G X Q 7 1302 [.ref 2000, .ref 0, .ref 58, .ref 93, .int x4, .int y0, v6] [.int (xs ((x4 + 1)).toNatClampNeg), .ref 58] mu n) :
    J l G X Q 7 1293 [.ref 2000, .ref 0, .ref 58, .ref 93, .int x4, v5, v6] [.int y0] mu n := by
  refine J_istore h dL_law_1293 (by decide) rfl ?_
  show J l G X Q 7 1295 [.ref 2000, .ref 0, .ref 58, .ref 93, .int x4, .int y0, v6] [] mu n
  refine J_aload_n h dL_law_1295 rfl rfl ?_
  refine J_aload_n h dL_law_1296 rfl rfl ?_
  refine J_iload h dL_law_1297 rfl ?_
  refine J_iconst h dL_law_1299 ci_1 ?_
  refine J_iadd h dL_law_1300 ?_
  refine J_xald h dL_law_1301 hsc (s1) ?_
  exact k2
theorem rL_law_163 {l : Launch} {G : jG} {X : jX} {Q : State → Prop} {n hg nc : Nat} {ret : Option FieldType} {mu : jM} {L : Nat} {xs : Nat → Int32} {x4 : Int32} {x5 : Int32} {v6 : Value} {y0 : Int32} {Qc : jM → Prop} {h' : Nat} (h : jOk l G X cL_law 7 ret RL hg nc) (hsc : jScr G X L xs) (hM : jCv l G yX8_net cX8_net 3 h' (.ref 58 :: [.int y0]) mu Qc) (hh : h' < hg ∧ 3 ≤ 21) (hn : n ≤ nc)
    (kk : ∀ mu', Qc mu' → J l G X Q 7 166 [.ref 2000, .ref 0, .ref 58, .ref 93, .int x4, .int x5, v6] [] mu' n) :
    J l G X Q 7 163 [.ref 2000, .ref 0, .ref 58, .ref 93, .int x4, .int x5, v6] [.int y0, .ref 58] mu n :=
  J_callV (As := [.int y0]) (rest := []) h dL_law_163 hM (jgV w1122 w1123 w1124 w84 w1125) rfl (ci := 8) rfl rfl nmX8_net rfl hh (Nat.le_of_ble_eq_true rfl) rfl kk hn
theorem rL_law_212 {l : Launch} {G : jG} {X : jX} {Q : State → Prop} {n hg nc : Nat} {ret : Option FieldType} {mu : jM} {L : Nat} {xs : Nat → Int32} {x4 : Int32} {x5 : Int32} {v6 : Value} {y0 : Int32} {y1 : Int32} {Qc : Int32 → jM → Prop} {h' : Nat} (h : jOk l G X cL_law 7 ret RL hg nc) (hsc : jScr G X L xs) (hM : jCi l G yX8_link cX8_link 3 h' (some .int) (.ref 58 :: [.int y1, .int y0]) mu Qc) (hh : h' < hg ∧ 3 ≤ 21) (hn : n ≤ nc)
    (kk : ∀ v mu', Qc v mu' → J l G X Q 7 215 [.ref 2000, .ref 0, .ref 58, .ref 93, .int x4, .int x5, v6] (.int v :: []) mu' n) :
    J l G X Q 7 212 [.ref 2000, .ref 0, .ref 58, .ref 93, .int x4, .int x5, v6] [.int y0, .int y1, .ref 58] mu n :=
  J_callVi (As := [.int y1, .int y0]) (rest := []) h dL_law_212 hM (jgV w1126 w1127 w1128 w84 w1129) rfl (ci := 8) rfl rfl nmX8_link rfl hh (Nat.le_of_ble_eq_true rfl) rfl kk hn
theorem rL_law_316 {l : Launch} {G : jG} {X : jX} {Q : State → Prop} {n hg nc : Nat} {ret : Option FieldType} {mu : jM} {L : Nat} {xs : Nat → Int32} {x4 : Int32} {x5 : Int32} {v6 : Value} {y0 : Int32} {y1 : Int32} {y2 : Int32} {y3 : Int32} {y4 : Int32} {Qc : Int32 → jM → Prop} {h' : Nat} (h : jOk l G X cL_law 7 ret RL hg nc) (hsc : jScr G X L xs) (hM : jCi l G yX8_word cX8_word 6 h' (some .int) (.ref 58 :: [.int y4, .int y3, .int y2, .int y1, .int y0]) mu Qc) (hh : h' < hg ∧ 6 ≤ 21) (hn : n ≤ nc)
    (kk : ∀ v mu', Qc v mu' → J l G X Q 7 319 [.ref 2000, .ref 0, .ref 58, .ref 93, .int x4, .int x5, v6] (.int v :: []) mu' n) :
    J l G X Q 7 316 [.ref 2000, .ref 0, .ref 58, .ref 93, .int x4, .int x5, v6] [.int y0, .int y1, .int y2, .int y3, .int y4, .ref 58] mu n :=
  J_callVi (As := [.int y4, .int y3, .int y2, .int y1, .int y0]) (rest := []) h dL_law_316 hM (jgV w1142 w1143 w1144 w84 w1145) rfl (ci := 8) rfl rfl nmX8_word rfl hh (Nat.le_of_ble_eq_true rfl) rfl kk hn
theorem rL_law_372 {l : Launch} {G : jG} {X : jX} {Q : State → Prop} {n hg nc : Nat} {ret : Option FieldType} {mu : jM} {L : Nat} {xs : Nat → Int32} {x4 : Int32} {x5 : Int32} {v6 : Value} {y0 : Int32} {Qc : Int32 → jM → Prop} {h' : Nat} (h : jOk l G X cL_law 7 ret RL hg nc) (hsc : jScr G X L xs) (hM : jCi l G yX8_builtin cX8_builtin 2 h' (some .int) (.ref 58 :: [.int y0]) mu Qc) (hh : h' < hg ∧ 2 ≤ 21) (hn : n ≤ nc)
    (kk : ∀ v mu', Qc v mu' → J l G X Q 7 375 [.ref 2000, .ref 0, .ref 58, .ref 93, .int x4, .int x5, v6] (.int v :: []) mu' n) :
    J l G X Q 7 372 [.ref 2000, .ref 0, .ref 58, .ref 93, .int x4, .int x5, v6] [.int y0, .ref 58] mu n :=
  J_callVi (As := [.int y0]) (rest := []) h dL_law_372 hM (jgV w1150 w1151 w1152 w84 w1153) rfl (ci := 8) rfl rfl nmX8_builtin rfl hh (Nat.le_of_ble_eq_true rfl) rfl kk hn
theorem rL_law_427 {l : Launch} {G : jG} {X : jX} {Q : State → Prop} {n hg nc : Nat} {ret : Option FieldType} {mu : jM} {L : Nat} {xs : Nat → Int32} {x4 : Int32} {x5 : Int32} {v6 : Value} {y0 : Int32} {Qc : jM → Prop} {h' : Nat} (h : jOk l G X cL_law 7 ret RL hg nc) (hsc : jScr G X L xs) (hM : jCv l G yX8_cutAt cX8_cutAt 2 h' (.ref 58 :: [.int y0]) mu Qc) (hh : h' < hg ∧ 2 ≤ 21) (hn : n ≤ nc)
    (kk : ∀ mu', Qc mu' → J l G X Q 7 430 [.ref 2000, .ref 0, .ref 58, .ref 93, .int x4, .int x5, v6] [] mu' n) :
    J l G X Q 7 427 [.ref 2000, .ref 0, .ref 58, .ref 93, .int x4, .int x5, v6] [.int y0, .ref 58] mu n :=
  J_callV (As := [.int y0]) (rest := []) h dL_law_427 hM (jgV w1178 w1179 w1180 w84 w1181) rfl (ci := 8) rfl rfl nmX8_cutAt rfl hh (Nat.le_of_ble_eq_true rfl) rfl kk hn
theorem rL_law_449 {l : Launch} {G : jG} {X : jX} {Q : State → Prop} {n hg nc : Nat} {ret : Option FieldType} {mu : jM} {L : Nat} {xs : Nat → Int32} {x4 : Int32} {v5 : Value} {v6 : Value} {y1 : Int32} {Qc : Int32 → jM → Prop} {h' : Nat} (h : jOk l G X cL_law 7 ret RL hg nc) (hsc : jScr G X L xs) (hM : jCi l G yX8_check cX8_check 1 h' (some .int) (.ref 58 :: []) mu Qc) (hh : h' < hg ∧ 1 ≤ 21) (hn : n ≤ nc)
    (kk : ∀ v mu', Qc v mu' → J l G X Q 7 452 [.ref 2000, .ref 0, .ref 58, .ref 93, .int x4, v5, v6] (.int v :: [.int y1]) mu' n) :
    J l G X Q 7 449 [.ref 2000, .ref 0, .ref 58, .ref 93, .int x4, v5, v6] [.ref 58, .int y1] mu n :=
  J_callVi (As := []) (rest := [.int y1]) h dL_law_449 hM (jgV w1182 w1183 w1184 w84 w1185) rfl (ci := 8) rfl rfl nmX8_check rfl hh (Nat.le_of_ble_eq_true rfl) rfl kk hn
theorem rL_law_500 {l : Launch} {G : jG} {X : jX} {Q : State → Prop} {n hg nc : Nat} {ret : Option FieldType} {mu : jM} {L : Nat} {xs : Nat → Int32} {x4 : Int32} {x5 : Int32} {v6 : Value} {y0 : Int32} {y1 : Int32} {y2 : Int32} {Qc : jM → Prop} {h' : Nat} (h : jOk l G X cL_law 7 ret RL hg nc) (hsc : jScr G X L xs) (hM : jCv l G yX8_input cX8_input 4 h' (.ref 58 :: [.int y2, .int y1, .int y0]) mu Qc) (hh : h' < hg ∧ 4 ≤ 21) (hn : n ≤ nc)
    (kk : ∀ mu', Qc mu' → J l G X Q 7 503 [.ref 2000, .ref 0, .ref 58, .ref 93, .int x4, .int x5, v6] [] mu' n) :
    J l G X Q 7 500 [.ref 2000, .ref 0, .ref 58, .ref 93, .int x4, .int x5, v6] [.int y0, .int y1, .int y2, .ref 58] mu n :=
  J_callV (As := [.int y2, .int y1, .int y0]) (rest := []) h dL_law_500 hM (jgV w1211 w1212 w1213 w84 w1214) rfl (ci := 8) rfl rfl nmX8_input rfl hh (Nat.le_of_ble_eq_true rfl) rfl kk hn
theorem rL_law_536 {l : Launch} {G : jG} {X : jX} {Q : State → Prop} {n hg nc : Nat} {ret : Option FieldType} {mu : jM} {L : Nat} {xs : Nat → Int32} {x4 : Int32} {x5 : Int32} {v6 : Value} {y0 : Int32} {Qc : jM → Prop} {h' : Nat} (h : jOk l G X cL_law 7 ret RL hg nc) (hsc : jScr G X L xs) (hM : jCv l G yX8_lockstep cX8_lockstep 3 h' (.ref 58 :: [.int y0]) mu Qc) (hh : h' < hg ∧ 3 ≤ 21) (hn : n ≤ nc)
    (kk : ∀ mu', Qc mu' → J l G X Q 7 539 [.ref 2000, .ref 0, .ref 58, .ref 93, .int x4, .int x5, v6] [] mu' n) :
    J l G X Q 7 536 [.ref 2000, .ref 0, .ref 58, .ref 93, .int x4, .int x5, v6] [.int y0, .ref 58] mu n :=
  J_callV (As := [.int y0]) (rest := []) h dL_law_536 hM (jgV w1215 w1216 w1217 w84 w1218) rfl (ci := 8) rfl rfl nmX8_lockstep rfl hh (Nat.le_of_ble_eq_true rfl) rfl kk hn
theorem rL_law_585 {l : Launch} {G : jG} {X : jX} {Q : State → Prop} {n hg nc : Nat} {ret : Option FieldType} {mu : jM} {L : Nat} {xs : Nat → Int32} {x4 : Int32} {x5 : Int32} {v6 : Value} {y0 : Int32} {y1 : Int32} {Qc : Int32 → jM → Prop} {h' : Nat} (h : jOk l G X cL_law 7 ret RL hg nc) (hsc : jScr G X L xs) (hM : jCi l G yX8_plain cX8_plain 3 h' (some .int) (.ref 58 :: [.int y1, .int y0]) mu Qc) (hh : h' < hg ∧ 3 ≤ 21) (hn : n ≤ nc)
    (kk : ∀ v mu', Qc v mu' → J l G X Q 7 588 [.ref 2000, .ref 0, .ref 58, .ref 93, .int x4, .int x5, v6] (.int v :: []) mu' n) :
    J l G X Q 7 585 [.ref 2000, .ref 0, .ref 58, .ref 93, .int x4, .int x5, v6] [.int y0, .int y1, .ref 58] mu n :=
  J_callVi (As := [.int y1, .int y0]) (rest := []) h dL_law_585 hM (jgV w1249 w1250 w1251 w84 w1252) rfl (ci := 8) rfl rfl nmX8_plain rfl hh (Nat.le_of_ble_eq_true rfl) rfl kk hn
theorem rL_law_653 {l : Launch} {G : jG} {X : jX} {Q : State → Prop} {n hg nc : Nat} {ret : Option FieldType} {mu : jM} {L : Nat} {xs : Nat → Int32} {x4 : Int32} {x5 : Int32} {v6 : Value} {y0 : Int32} {y1 : Int32} {Qc : Int32 → jM → Prop} {h' : Nat} (h : jOk l G X cL_law 7 ret RL hg nc) (hsc : jScr G X L xs) (hM : jCi l G yX8_prepare cX8_prepare 4 h' (some .int) (.ref 58 :: [.int y1, .int y0]) mu Qc) (hh : h' < hg ∧ 4 ≤ 21) (hn : n ≤ nc)
    (kk : ∀ v mu', Qc v mu' → J l G X Q 7 656 [.ref 2000, .ref 0, .ref 58, .ref 93, .int x4, .int x5, v6] (.int v :: []) mu' n) :
    J l G X Q 7 653 [.ref 2000, .ref 0, .ref 58, .ref 93, .int x4, .int x5, v6] [.int y0, .int y1, .ref 58] mu n :=
  J_callVi (As := [.int y1, .int y0]) (rest := []) h dL_law_653 hM (jgV w1253 w1254 w1255 w84 w1256) rfl (ci := 8) rfl rfl nmX8_prepare rfl hh (Nat.le_of_ble_eq_true rfl) rfl kk hn
theorem rL_law_696 {l : Launch} {G : jG} {X : jX} {Q : State → Prop} {n hg nc : Nat} {ret : Option FieldType} {mu : jM} {L : Nat} {xs : Nat → Int32} {x4 : Int32} {x5 : Int32} {v6 : Value} {Qc : jM → Prop} {h' : Nat} (h : jOk l G X cL_law 7 ret RL hg nc) (hsc : jScr G X L xs) (hM : jCv l G yX8_release cX8_release 1 h' (.ref 58 :: []) mu Qc) (hh : h' < hg ∧ 1 ≤ 21) (hn : n ≤ nc)
    (kk : ∀ mu', Qc mu' → J l G X Q 7 699 [.ref 2000, .ref 0, .ref 58, .ref 93, .int x4, .int x5, v6] [] mu' n) :
    J l G X Q 7 696 [.ref 2000, .ref 0, .ref 58, .ref 93, .int x4, .int x5, v6] [.ref 58] mu n :=
  J_callV (As := []) (rest := []) h dL_law_696 hM (jgV w1285 w1286 w1287 w84 w1288) rfl (ci := 8) rfl rfl nmX8_release rfl hh (Nat.le_of_ble_eq_true rfl) rfl kk hn
theorem rL_law_732 {l : Launch} {G : jG} {X : jX} {Q : State → Prop} {n hg nc : Nat} {ret : Option FieldType} {mu : jM} {L : Nat} {xs : Nat → Int32} {x4 : Int32} {x5 : Int32} {v6 : Value} {y0 : Int32} {Qc : jM → Prop} {h' : Nat} (h : jOk l G X cL_law 7 ret RL hg nc) (hsc : jScr G X L xs) (hM : jCv l G yX8_stopAt cX8_stopAt 3 h' (.ref 58 :: [.int y0]) mu Qc) (hh : h' < hg ∧ 3 ≤ 21) (hn : n ≤ nc)
    (kk : ∀ mu', Qc mu' → J l G X Q 7 735 [.ref 2000, .ref 0, .ref 58, .ref 93, .int x4, .int x5, v6] [] mu' n) :
    J l G X Q 7 732 [.ref 2000, .ref 0, .ref 58, .ref 93, .int x4, .int x5, v6] [.int y0, .ref 58] mu n :=
  J_callV (As := [.int y0]) (rest := []) h dL_law_732 hM (jgV w1289 w1290 w1291 w84 w1292) rfl (ci := 8) rfl rfl nmX8_stopAt rfl hh (Nat.le_of_ble_eq_true rfl) rfl kk hn
theorem rL_law_754 {l : Launch} {G : jG} {X : jX} {Q : State → Prop} {n hg nc : Nat} {ret : Option FieldType} {mu : jM} {L : Nat} {xs : Nat → Int32} {x4 : Int32} {v5 : Value} {v6 : Value} {y1 : Int32} {Qc : Int32 → jM → Prop} {h' : Nat} (h : jOk l G X cL_law 7 ret RL hg nc) (hsc : jScr G X L xs) (hM : jCi l G yX8_letters cX8_letters 1 h' (some .int) (.ref 58 :: []) mu Qc) (hh : h' < hg ∧ 1 ≤ 21) (hn : n ≤ nc)
    (kk : ∀ v mu', Qc v mu' → J l G X Q 7 757 [.ref 2000, .ref 0, .ref 58, .ref 93, .int x4, v5, v6] (.int v :: [.int y1]) mu' n) :
    J l G X Q 7 754 [.ref 2000, .ref 0, .ref 58, .ref 93, .int x4, v5, v6] [.ref 58, .int y1] mu n :=
  J_callVi (As := []) (rest := [.int y1]) h dL_law_754 hM (jgV w1360 w1361 w1362 w84 w1363) rfl (ci := 8) rfl rfl nmX8_letters rfl hh (Nat.le_of_ble_eq_true rfl) rfl kk hn
theorem rL_law_794 {l : Launch} {G : jG} {X : jX} {Q : State → Prop} {n hg nc : Nat} {ret : Option FieldType} {mu : jM} {L : Nat} {xs : Nat → Int32} {x4 : Int32} {x5 : Int32} {v6 : Value} {y0 : Int32} {y1 : Int32} {Qc : Int32 → jM → Prop} {h' : Nat} (h : jOk l G X cL_law 7 ret RL hg nc) (hsc : jScr G X L xs) (hM : jCi l G yX8_letter cX8_letter 3 h' (some .int) (.ref 58 :: [.int y1, .int y0]) mu Qc) (hh : h' < hg ∧ 3 ≤ 21) (hn : n ≤ nc)
    (kk : ∀ v mu', Qc v mu' → J l G X Q 7 797 [.ref 2000, .ref 0, .ref 58, .ref 93, .int x4, .int x5, v6] (.int v :: []) mu' n) :
    J l G X Q 7 794 [.ref 2000, .ref 0, .ref 58, .ref 93, .int x4, .int x5, v6] [.int y0, .int y1, .ref 58] mu n :=
  J_callVi (As := [.int y1, .int y0]) (rest := []) h dL_law_794 hM (jgV w1364 w1365 w1366 w84 w1367) rfl (ci := 8) rfl rfl nmX8_letter rfl hh (Nat.le_of_ble_eq_true rfl) rfl kk hn
theorem rL_law_850 {l : Launch} {G : jG} {X : jX} {Q : State → Prop} {n hg nc : Nat} {ret : Option FieldType} {mu : jM} {L : Nat} {xs : Nat → Int32} {x4 : Int32} {x5 : Int32} {v6 : Value} {y0 : Int32} {Qc : Int32 → jM → Prop} {h' : Nat} (h : jOk l G X cL_law 7 ret RL hg nc) (hsc : jScr G X L xs) (hM : jCi l G yX8_deliver cX8_deliver 2 h' (some .int) (.ref 58 :: [.int y0]) mu Qc) (hh : h' < hg ∧ 2 ≤ 21) (hn : n ≤ nc)
    (kk : ∀ v mu', Qc v mu' → J l G X Q 7 853 [.ref 2000, .ref 0, .ref 58, .ref 93, .int x4, .int x5, v6] (.int v :: []) mu' n) :
    J l G X Q 7 850 [.ref 2000, .ref 0, .ref 58, .ref 93, .int x4, .int x5, v6] [.int y0, .ref 58] mu n :=
  J_callVi (As := [.int y0]) (rest := []) h dL_law_850 hM (jgV w1368 w1369 w1370 w84 w1371) rfl (ci := 8) rfl rfl nmX8_deliver rfl hh (Nat.le_of_ble_eq_true rfl) rfl kk hn
theorem rL_law_930 {l : Launch} {G : jG} {X : jX} {Q : State → Prop} {n hg nc : Nat} {ret : Option FieldType} {mu : jM} {L : Nat} {xs : Nat → Int32} {x4 : Int32} {x5 : Int32} {v6 : Value} {y0 : Int32} {y1 : Int32} {y2 : Int32} {Qc : Int32 → jM → Prop} {h' : Nat} (h : jOk l G X cL_law 7 ret RL hg nc) (hsc : jScr G X L xs) (hM : jCi l G yX8_deliverAll cX8_deliverAll 7 h' (some .int) (.ref 58 :: [.int y2, .int y1, .int y0]) mu Qc) (hh : h' < hg ∧ 7 ≤ 21) (hn : n ≤ nc)
    (kk : ∀ v mu', Qc v mu' → J l G X Q 7 933 [.ref 2000, .ref 0, .ref 58, .ref 93, .int x4, .int x5, v6] (.int v :: []) mu' n) :
    J l G X Q 7 930 [.ref 2000, .ref 0, .ref 58, .ref 93, .int x4, .int x5, v6] [.int y0, .int y1, .int y2, .ref 58] mu n :=
  J_callVi (As := [.int y2, .int y1, .int y0]) (rest := []) h dL_law_930 hM (jgV w1376 w1377 w1378 w84 w1379) rfl (ci := 8) rfl rfl nmX8_deliverAll rfl hh (Nat.le_of_ble_eq_true rfl) rfl kk hn
theorem rL_law_986 {l : Launch} {G : jG} {X : jX} {Q : State → Prop} {n hg nc : Nat} {ret : Option FieldType} {mu : jM} {L : Nat} {xs : Nat → Int32} {x4 : Int32} {x5 : Int32} {v6 : Value} {y0 : Int32} {Qc : Int32 → jM → Prop} {h' : Nat} (h : jOk l G X cL_law 7 ret RL hg nc) (hsc : jScr G X L xs) (hM : jCi l G yX8_switchTo cX8_switchTo 4 h' (some .int) (.ref 58 :: [.int y0]) mu Qc) (hh : h' < hg ∧ 4 ≤ 21) (hn : n ≤ nc)
    (kk : ∀ v mu', Qc v mu' → J l G X Q 7 989 [.ref 2000, .ref 0, .ref 58, .ref 93, .int x4, .int x5, v6] (.int v :: []) mu' n) :
    J l G X Q 7 986 [.ref 2000, .ref 0, .ref 58, .ref 93, .int x4, .int x5, v6] [.int y0, .ref 58] mu n :=
  J_callVi (As := [.int y0]) (rest := []) h dL_law_986 hM (jgV w1381 w1382 w1383 w84 w1384) rfl (ci := 8) rfl rfl nmX8_switchTo rfl hh (Nat.le_of_ble_eq_true rfl) rfl kk hn
theorem rL_law_1042 {l : Launch} {G : jG} {X : jX} {Q : State → Prop} {n hg nc : Nat} {ret : Option FieldType} {mu : jM} {L : Nat} {xs : Nat → Int32} {x4 : Int32} {x5 : Int32} {v6 : Value} {y0 : Int32} {Qc : Int32 → jM → Prop} {h' : Nat} (h : jOk l G X cL_law 7 ret RL hg nc) (hsc : jScr G X L xs) (hM : jCi l G yX8_roundOf cX8_roundOf 2 h' (some .int) (.ref 58 :: [.int y0]) mu Qc) (hh : h' < hg ∧ 2 ≤ 21) (hn : n ≤ nc)
    (kk : ∀ v mu', Qc v mu' → J l G X Q 7 1045 [.ref 2000, .ref 0, .ref 58, .ref 93, .int x4, .int x5, v6] (.int v :: []) mu' n) :
    J l G X Q 7 1042 [.ref 2000, .ref 0, .ref 58, .ref 93, .int x4, .int x5, v6] [.int y0, .ref 58] mu n :=
  J_callVi (As := [.int y0]) (rest := []) h dL_law_1042 hM (jgV w1385 w1386 w1387 w84 w1388) rfl (ci := 8) rfl rfl nmX8_roundOf rfl hh (Nat.le_of_ble_eq_true rfl) rfl kk hn
theorem rL_law_1110 {l : Launch} {G : jG} {X : jX} {Q : State → Prop} {n hg nc : Nat} {ret : Option FieldType} {mu : jM} {L : Nat} {xs : Nat → Int32} {x4 : Int32} {x5 : Int32} {v6 : Value} {y0 : Int32} {y1 : Int32} {Qc : Int32 → jM → Prop} {h' : Nat} (h : jOk l G X cL_law 7 ret RL hg nc) (hsc : jScr G X L xs) (hM : jCi l G yX8_value cX8_value 3 h' (some .int) (.ref 58 :: [.int y1, .int y0]) mu Qc) (hh : h' < hg ∧ 3 ≤ 21) (hn : n ≤ nc)
    (kk : ∀ v mu', Qc v mu' → J l G X Q 7 1113 [.ref 2000, .ref 0, .ref 58, .ref 93, .int x4, .int x5, v6] (.int v :: []) mu' n) :
    J l G X Q 7 1110 [.ref 2000, .ref 0, .ref 58, .ref 93, .int x4, .int x5, v6] [.int y0, .int y1, .ref 58] mu n :=
  J_callVi (As := [.int y1, .int y0]) (rest := []) h dL_law_1110 hM (jgV w1389 w1390 w1391 w84 w1392) rfl (ci := 8) rfl rfl nmX8_value rfl hh (Nat.le_of_ble_eq_true rfl) rfl kk hn
theorem rL_law_1178 {l : Launch} {G : jG} {X : jX} {Q : State → Prop} {n hg nc : Nat} {ret : Option FieldType} {mu : jM} {L : Nat} {xs : Nat → Int32} {x4 : Int32} {x5 : Int32} {v6 : Value} {y0 : Int32} {y1 : Int32} {Qc : Int32 → jM → Prop} {h' : Nat} (h : jOk l G X cL_law 7 ret RL hg nc) (hsc : jScr G X L xs) (hM : jCi l G yX8_place cX8_place 3 h' (some .int) (.ref 58 :: [.int y1, .int y0]) mu Qc) (hh : h' < hg ∧ 3 ≤ 21) (hn : n ≤ nc)
    (kk : ∀ v mu', Qc v mu' → J l G X Q 7 1181 [.ref 2000, .ref 0, .ref 58, .ref 93, .int x4, .int x5, v6] (.int v :: []) mu' n) :
    J l G X Q 7 1178 [.ref 2000, .ref 0, .ref 58, .ref 93, .int x4, .int x5, v6] [.int y0, .int y1, .ref 58] mu n :=
  J_callVi (As := [.int y1, .int y0]) (rest := []) h dL_law_1178 hM (jgV w1393 w1394 w1395 w84 w1396) rfl (ci := 8) rfl rfl nmX8_place rfl hh (Nat.le_of_ble_eq_true rfl) rfl kk hn
theorem rL_law_1246 {l : Launch} {G : jG} {X : jX} {Q : State → Prop} {n hg nc : Nat} {ret : Option FieldType} {mu : jM} {L : Nat} {xs : Nat → Int32} {x4 : Int32} {x5 : Int32} {v6 : Value} {y0 : Int32} {y1 : Int32} {Qc : Int32 → jM → Prop} {h' : Nat} (h : jOk l G X cL_law 7 ret RL hg nc) (hsc : jScr G X L xs) (hM : jCi l G yX8_chosen cX8_chosen 3 h' (some .int) (.ref 58 :: [.int y1, .int y0]) mu Qc) (hh : h' < hg ∧ 3 ≤ 21) (hn : n ≤ nc)
    (kk : ∀ v mu', Qc v mu' → J l G X Q 7 1249 [.ref 2000, .ref 0, .ref 58, .ref 93, .int x4, .int x5, v6] (.int v :: []) mu' n) :
    J l G X Q 7 1246 [.ref 2000, .ref 0, .ref 58, .ref 93, .int x4, .int x5, v6] [.int y0, .int y1, .ref 58] mu n :=
  J_callVi (As := [.int y1, .int y0]) (rest := []) h dL_law_1246 hM (jgV w1397 w1398 w1399 w84 w1400) rfl (ci := 8) rfl rfl nmX8_chosen rfl hh (Nat.le_of_ble_eq_true rfl) rfl kk hn
theorem rL_law_1302 {l : Launch} {G : jG} {X : jX} {Q : State → Prop} {n hg nc : Nat} {ret : Option FieldType} {mu : jM} {L : Nat} {xs : Nat → Int32} {x4 : Int32} {x5 : Int32} {v6 : Value} {y0 : Int32} {Qc : Int32 → jM → Prop} {h' : Nat} (h : jOk l G X cL_law 7 ret RL hg nc) (hsc : jScr G X L xs) (hM : jCi l G yX8_count cX8_count 4 h' (some .int) (.ref 58 :: [.int y0]) mu Qc) (hh : h' < hg ∧ 4 ≤ 21) (hn : n ≤ nc)
    (kk : ∀ v mu', Qc v mu' → J l G X Q 7 1305 [.ref 2000, .ref 0, .ref 58, .ref 93, .int x4, .int x5, v6] (.int v :: []) mu' n) :
    J l G X Q 7 1302 [.ref 2000, .ref 0, .ref 58, .ref 93, .int x4, .int x5, v6] [.int y0, .ref 58] mu n :=
  J_callVi (As := [.int y0]) (rest := []) h dL_law_1302 hM (jgV w1401 w1402 w1403 w84 w1404) rfl (ci := 8) rfl rfl nmX8_count rfl hh (Nat.le_of_ble_eq_true rfl) rfl kk hn
theorem rL_law_166 {l : Launch} {G : jG} {X : jX} {Q : State → Prop} {n hg nc : Nat} {ret : Option FieldType} {mu : jM} {L : Nat} {xs : Nat → Int32} {x4 : Int32} {x5 : Int32} {v6 : Value} (h : jOk l G X cL_law 7 ret RL hg nc) (hsc : jScr G X L xs)
    (k1 : J l G X Q 7 167 [.ref 2000, .ref 0, .ref 58, .ref 93, .int x4, .int x5, v6] [.ref 58] mu n) :
    J l G X Q 7 166 [.ref 2000, .ref 0, .ref 58, .ref 93, .int x4, .int x5, v6] [] mu n := by
  refine J_aload_n h dL_law_166 rfl rfl ?_
  exact k1
theorem rL_law_215 {l : Launch} {G : jG} {X : jX} {Q : State → Prop} {n hg nc : Nat} {ret : Option FieldType} {mu : jM} {L : Nat} {xs : Nat → Int32} {x4 : Int32} {x5 : Int32} {v6 : Value} {y0 : Int32} (h : jOk l G X cL_law 7 ret RL hg nc) (hsc : jScr G X L xs)
    (k1 : J l G X Q 7 218 [.ref 2000, .ref 0, .ref 58, .ref 93, .int x4, .int x5, .int y0] [.ref 58] mu n) :
    J l G X Q 7 215 [.ref 2000, .ref 0, .ref 58, .ref 93, .int x4, .int x5, v6] [.int y0] mu n := by
  refine J_istore h dL_law_215 (by decide) rfl ?_
  show J l G X Q 7 217 [.ref 2000, .ref 0, .ref 58, .ref 93, .int x4, .int x5, .int y0] [] mu n
  refine J_aload_n h dL_law_217 rfl rfl ?_
  exact k1
theorem rL_law_319 {l : Launch} {G : jG} {X : jX} {Q : State → Prop} {n hg nc : Nat} {ret : Option FieldType} {mu : jM} {L : Nat} {xs : Nat → Int32} {x4 : Int32} {x5 : Int32} {v6 : Value} {y0 : Int32} (h : jOk l G X cL_law 7 ret RL hg nc) (hsc : jScr G X L xs)
    (k1 : J l G X Q 7 322 [.ref 2000, .ref 0, .ref 58, .ref 93, .int x4, .int x5, .int y0] [.ref 58] mu n) :
    J l G X Q 7 319 [.ref 2000, .ref 0, .ref 58, .ref 93, .int x4, .int x5, v6] [.int y0] mu n := by
  refine J_istore h dL_law_319 (by decide) rfl ?_
  show J l G X Q 7 321 [.ref 2000, .ref 0, .ref 58, .ref 93, .int x4, .int x5, .int y0] [] mu n
  refine J_aload_n h dL_law_321 rfl rfl ?_
  exact k1
theorem rL_law_375 {l : Launch} {G : jG} {X : jX} {Q : State → Prop} {n hg nc : Nat} {ret : Option FieldType} {mu : jM} {L : Nat} {xs : Nat → Int32} {x4 : Int32} {x5 : Int32} {v6 : Value} {y0 : Int32} (h : jOk l G X cL_law 7 ret RL hg nc) (hsc : jScr G X L xs)
    (k1 : J l G X Q 7 378 [.ref 2000, .ref 0, .ref 58, .ref 93, .int x4, .int x5, .int y0] [.ref 58] mu n) :
    J l G X Q 7 375 [.ref 2000, .ref 0, .ref 58, .ref 93, .int x4, .int x5, v6] [.int y0] mu n := by
  refine J_istore h dL_law_375 (by decide) rfl ?_
  show J l G X Q 7 377 [.ref 2000, .ref 0, .ref 58, .ref 93, .int x4, .int x5, .int y0] [] mu n
  refine J_aload_n h dL_law_377 rfl rfl ?_
  exact k1
theorem rL_law_430 {l : Launch} {G : jG} {X : jX} {Q : State → Prop} {n hg nc : Nat} {ret : Option FieldType} {mu : jM} {L : Nat} {xs : Nat → Int32} {x4 : Int32} {x5 : Int32} {v6 : Value} (h : jOk l G X cL_law 7 ret RL hg nc) (hsc : jScr G X L xs)
    (k1 : J l G X Q 7 431 [.ref 2000, .ref 0, .ref 58, .ref 93, .int x4, .int x5, v6] [.ref 58] mu n) :
    J l G X Q 7 430 [.ref 2000, .ref 0, .ref 58, .ref 93, .int x4, .int x5, v6] [] mu n := by
  refine J_aload_n h dL_law_430 rfl rfl ?_
  exact k1
theorem rL_law_452 {l : Launch} {G : jG} {X : jX} {Q : State → Prop} {n hg nc : Nat} {ret : Option FieldType} {mu : jM} {L : Nat} {xs : Nat → Int32} {x4 : Int32} {v5 : Value} {v6 : Value} {y0 : Int32} {y1 : Int32} (h : jOk l G X cL_law 7 ret RL hg nc) (hsc : jScr G X L xs)
    (k2 : y1 = y0 → J l G X Q 7 1338 [.ref 2000, .ref 0, .ref 58, .ref 93, .int x4, v5, v6] [] mu n)
    (k3 : ¬ y1 = y0 → J l G X Q 7 456 [.ref 2000, .ref 0, .ref 58, .ref 93, .int x4, v5, v6] [.int 0] mu n) :
    J l G X Q 7 452 [.ref 2000, .ref 0, .ref 58, .ref 93, .int x4, v5, v6] [.int y0, .int y1] mu n := by
  refine J_icmp_eq (tgt := 1338) h dL_law_452 (by decide) (fun q1 => ?_) (fun q1 => ?_)
  · skip
    exact k2 q1
  · skip
    refine J_iconst h dL_law_455 ci_0 ?_
    exact k3 q1
theorem rL_law_503 {l : Launch} {G : jG} {X : jX} {Q : State → Prop} {n hg nc : Nat} {ret : Option FieldType} {mu : jM} {L : Nat} {xs : Nat → Int32} {x4 : Int32} {x5 : Int32} {v6 : Value} (h : jOk l G X cL_law 7 ret RL hg nc) (hsc : jScr G X L xs)
    (k1 : J l G X Q 7 504 [.ref 2000, .ref 0, .ref 58, .ref 93, .int x4, .int x5, v6] [.ref 58] mu n) :
    J l G X Q 7 503 [.ref 2000, .ref 0, .ref 58, .ref 93, .int x4, .int x5, v6] [] mu n := by
  refine J_aload_n h dL_law_503 rfl rfl ?_
  exact k1
theorem rL_law_539 {l : Launch} {G : jG} {X : jX} {Q : State → Prop} {n hg nc : Nat} {ret : Option FieldType} {mu : jM} {L : Nat} {xs : Nat → Int32} {x4 : Int32} {x5 : Int32} {v6 : Value} (h : jOk l G X cL_law 7 ret RL hg nc) (hsc : jScr G X L xs)
    (k1 : J l G X Q 7 540 [.ref 2000, .ref 0, .ref 58, .ref 93, .int x4, .int x5, v6] [.ref 58] mu n) :
    J l G X Q 7 539 [.ref 2000, .ref 0, .ref 58, .ref 93, .int x4, .int x5, v6] [] mu n := by
  refine J_aload_n h dL_law_539 rfl rfl ?_
  exact k1
theorem rL_law_588 {l : Launch} {G : jG} {X : jX} {Q : State → Prop} {n hg nc : Nat} {ret : Option FieldType} {mu : jM} {L : Nat} {xs : Nat → Int32} {x4 : Int32} {x5 : Int32} {v6 : Value} {y0 : Int32} (h : jOk l G X cL_law 7 ret RL hg nc) (hsc : jScr G X L xs)
    (k1 : J l G X Q 7 591 [.ref 2000, .ref 0, .ref 58, .ref 93, .int x4, .int x5, .int y0] [.ref 58] mu n) :
    J l G X Q 7 588 [.ref 2000, .ref 0, .ref 58, .ref 93, .int x4, .int x5, v6] [.int y0] mu n := by
  refine J_istore h dL_law_588 (by decide) rfl ?_
  show J l G X Q 7 590 [.ref 2000, .ref 0, .ref 58, .ref 93, .int x4, .int x5, .int y0] [] mu n
  refine J_aload_n h dL_law_590 rfl rfl ?_
  exact k1
theorem rL_law_656 {l : Launch} {G : jG} {X : jX} {Q : State → Prop} {n hg nc : Nat} {ret : Option FieldType} {mu : jM} {L : Nat} {xs : Nat → Int32} {x4 : Int32} {x5 : Int32} {v6 : Value} {y0 : Int32} (h : jOk l G X cL_law 7 ret RL hg nc) (hsc : jScr G X L xs)
    (k1 : J l G X Q 7 659 [.ref 2000, .ref 0, .ref 58, .ref 93, .int x4, .int x5, .int y0] [.ref 58] mu n) :
    J l G X Q 7 656 [.ref 2000, .ref 0, .ref 58, .ref 93, .int x4, .int x5, v6] [.int y0] mu n := by
  refine J_istore h dL_law_656 (by decide) rfl ?_
  show J l G X Q 7 658 [.ref 2000, .ref 0, .ref 58, .ref 93, .int x4, .int x5, .int y0] [] mu n
  refine J_aload_n h dL_law_658 rfl rfl ?_
  exact k1
theorem rL_law_699 {l : Launch} {G : jG} {X : jX} {Q : State → Prop} {n hg nc : Nat} {ret : Option FieldType} {mu : jM} {L : Nat} {xs : Nat → Int32} {x4 : Int32} {x5 : Int32} {v6 : Value} (h : jOk l G X cL_law 7 ret RL hg nc) (hsc : jScr G X L xs)
    (k1 : J l G X Q 7 700 [.ref 2000, .ref 0, .ref 58, .ref 93, .int x4, .int x5, v6] [.ref 58] mu n) :
    J l G X Q 7 699 [.ref 2000, .ref 0, .ref 58, .ref 93, .int x4, .int x5, v6] [] mu n := by
  refine J_aload_n h dL_law_699 rfl rfl ?_
  exact k1
theorem rL_law_735 {l : Launch} {G : jG} {X : jX} {Q : State → Prop} {n hg nc : Nat} {ret : Option FieldType} {mu : jM} {L : Nat} {xs : Nat → Int32} {x4 : Int32} {x5 : Int32} {v6 : Value} (h : jOk l G X cL_law 7 ret RL hg nc) (hsc : jScr G X L xs)
    (k1 : J l G X Q 7 736 [.ref 2000, .ref 0, .ref 58, .ref 93, .int x4, .int x5, v6] [.ref 58] mu n) :
    J l G X Q 7 735 [.ref 2000, .ref 0, .ref 58, .ref 93, .int x4, .int x5, v6] [] mu n := by
  refine J_aload_n h dL_law_735 rfl rfl ?_
  exact k1
theorem rL_law_757 {l : Launch} {G : jG} {X : jX} {Q : State → Prop} {n hg nc : Nat} {ret : Option FieldType} {mu : jM} {L : Nat} {xs : Nat → Int32} {x4 : Int32} {v5 : Value} {v6 : Value} {y0 : Int32} {y1 : Int32} (h : jOk l G X cL_law 7 ret RL hg nc) (hsc : jScr G X L xs)
    (k2 : y1 = y0 → J l G X Q 7 1338 [.ref 2000, .ref 0, .ref 58, .ref 93, .int x4, v5, v6] [] mu n)
    (k3 : ¬ y1 = y0 → J l G X Q 7 761 [.ref 2000, .ref 0, .ref 58, .ref 93, .int x4, v5, v6] [.int 0] mu n) :
    J l G X Q 7 757 [.ref 2000, .ref 0, .ref 58, .ref 93, .int x4, v5, v6] [.int y0, .int y1] mu n := by
  refine J_icmp_eq (tgt := 1338) h dL_law_757 (by decide) (fun q1 => ?_) (fun q1 => ?_)
  · skip
    exact k2 q1
  · skip
    refine J_iconst h dL_law_760 ci_0 ?_
    exact k3 q1
theorem rL_law_797 {l : Launch} {G : jG} {X : jX} {Q : State → Prop} {n hg nc : Nat} {ret : Option FieldType} {mu : jM} {L : Nat} {xs : Nat → Int32} {x4 : Int32} {x5 : Int32} {v6 : Value} {y0 : Int32} (h : jOk l G X cL_law 7 ret RL hg nc) (hsc : jScr G X L xs)
    (k1 : J l G X Q 7 800 [.ref 2000, .ref 0, .ref 58, .ref 93, .int x4, .int x5, .int y0] [.ref 58] mu n) :
    J l G X Q 7 797 [.ref 2000, .ref 0, .ref 58, .ref 93, .int x4, .int x5, v6] [.int y0] mu n := by
  refine J_istore h dL_law_797 (by decide) rfl ?_
  show J l G X Q 7 799 [.ref 2000, .ref 0, .ref 58, .ref 93, .int x4, .int x5, .int y0] [] mu n
  refine J_aload_n h dL_law_799 rfl rfl ?_
  exact k1
theorem rL_law_853 {l : Launch} {G : jG} {X : jX} {Q : State → Prop} {n hg nc : Nat} {ret : Option FieldType} {mu : jM} {L : Nat} {xs : Nat → Int32} {x4 : Int32} {x5 : Int32} {v6 : Value} {y0 : Int32} (h : jOk l G X cL_law 7 ret RL hg nc) (hsc : jScr G X L xs)
    (k1 : J l G X Q 7 856 [.ref 2000, .ref 0, .ref 58, .ref 93, .int x4, .int x5, .int y0] [.ref 58] mu n) :
    J l G X Q 7 853 [.ref 2000, .ref 0, .ref 58, .ref 93, .int x4, .int x5, v6] [.int y0] mu n := by
  refine J_istore h dL_law_853 (by decide) rfl ?_
  show J l G X Q 7 855 [.ref 2000, .ref 0, .ref 58, .ref 93, .int x4, .int x5, .int y0] [] mu n
  refine J_aload_n h dL_law_855 rfl rfl ?_
  exact k1
theorem rL_law_933 {l : Launch} {G : jG} {X : jX} {Q : State → Prop} {n hg nc : Nat} {ret : Option FieldType} {mu : jM} {L : Nat} {xs : Nat → Int32} {x4 : Int32} {x5 : Int32} {v6 : Value} {y0 : Int32} (h : jOk l G X cL_law 7 ret RL hg nc) (hsc : jScr G X L xs)
    (k1 : J l G X Q 7 936 [.ref 2000, .ref 0, .ref 58, .ref 93, .int x4, .int x5, .int y0] [.ref 58] mu n) :
    J l G X Q 7 933 [.ref 2000, .ref 0, .ref 58, .ref 93, .int x4, .int x5, v6] [.int y0] mu n := by
  refine J_istore h dL_law_933 (by decide) rfl ?_
  show J l G X Q 7 935 [.ref 2000, .ref 0, .ref 58, .ref 93, .int x4, .int x5, .int y0] [] mu n
  refine J_aload_n h dL_law_935 rfl rfl ?_
  exact k1
theorem rL_law_989 {l : Launch} {G : jG} {X : jX} {Q : State → Prop} {n hg nc : Nat} {ret : Option FieldType} {mu : jM} {L : Nat} {xs : Nat → Int32} {x4 : Int32} {x5 : Int32} {v6 : Value} {y0 : Int32} (h : jOk l G X cL_law 7 ret RL hg nc) (hsc : jScr G X L xs)
    (k1 : J l G X Q 7 992 [.ref 2000, .ref 0, .ref 58, .ref 93, .int x4, .int x5, .int y0] [.ref 58] mu n) :
    J l G X Q 7 989 [.ref 2000, .ref 0, .ref 58, .ref 93, .int x4, .int x5, v6] [.int y0] mu n := by
  refine J_istore h dL_law_989 (by decide) rfl ?_
  show J l G X Q 7 991 [.ref 2000, .ref 0, .ref 58, .ref 93, .int x4, .int x5, .int y0] [] mu n
  refine J_aload_n h dL_law_991 rfl rfl ?_
  exact k1
theorem rL_law_1045 {l : Launch} {G : jG} {X : jX} {Q : State → Prop} {n hg nc : Nat} {ret : Option FieldType} {mu : jM} {L : Nat} {xs : Nat → Int32} {x4 : Int32} {x5 : Int32} {v6 : Value} {y0 : Int32} (h : jOk l G X cL_law 7 ret RL hg nc) (hsc : jScr G X L xs)
    (k1 : J l G X Q 7 1048 [.ref 2000, .ref 0, .ref 58, .ref 93, .int x4, .int x5, .int y0] [.ref 58] mu n) :
    J l G X Q 7 1045 [.ref 2000, .ref 0, .ref 58, .ref 93, .int x4, .int x5, v6] [.int y0] mu n := by
  refine J_istore h dL_law_1045 (by decide) rfl ?_
  show J l G X Q 7 1047 [.ref 2000, .ref 0, .ref 58, .ref 93, .int x4, .int x5, .int y0] [] mu n
  refine J_aload_n h dL_law_1047 rfl rfl ?_
  exact k1
theorem rL_law_1113 {l : Launch} {G : jG} {X : jX} {Q : State → Prop} {n hg nc : Nat} {ret : Option FieldType} {mu : jM} {L : Nat} {xs : Nat → Int32} {x4 : Int32} {x5 : Int32} {v6 : Value} {y0 : Int32} (h : jOk l G X cL_law 7 ret RL hg nc) (hsc : jScr G X L xs)
    (k1 : J l G X Q 7 1116 [.ref 2000, .ref 0, .ref 58, .ref 93, .int x4, .int x5, .int y0] [.ref 58] mu n) :
    J l G X Q 7 1113 [.ref 2000, .ref 0, .ref 58, .ref 93, .int x4, .int x5, v6] [.int y0] mu n := by
  refine J_istore h dL_law_1113 (by decide) rfl ?_
  show J l G X Q 7 1115 [.ref 2000, .ref 0, .ref 58, .ref 93, .int x4, .int x5, .int y0] [] mu n
  refine J_aload_n h dL_law_1115 rfl rfl ?_
  exact k1
theorem rL_law_1181 {l : Launch} {G : jG} {X : jX} {Q : State → Prop} {n hg nc : Nat} {ret : Option FieldType} {mu : jM} {L : Nat} {xs : Nat → Int32} {x4 : Int32} {x5 : Int32} {v6 : Value} {y0 : Int32} (h : jOk l G X cL_law 7 ret RL hg nc) (hsc : jScr G X L xs)
    (k1 : J l G X Q 7 1184 [.ref 2000, .ref 0, .ref 58, .ref 93, .int x4, .int x5, .int y0] [.ref 58] mu n) :
    J l G X Q 7 1181 [.ref 2000, .ref 0, .ref 58, .ref 93, .int x4, .int x5, v6] [.int y0] mu n := by
  refine J_istore h dL_law_1181 (by decide) rfl ?_
  show J l G X Q 7 1183 [.ref 2000, .ref 0, .ref 58, .ref 93, .int x4, .int x5, .int y0] [] mu n
  refine J_aload_n h dL_law_1183 rfl rfl ?_
  exact k1
theorem rL_law_1249 {l : Launch} {G : jG} {X : jX} {Q : State → Prop} {n hg nc : Nat} {ret : Option FieldType} {mu : jM} {L : Nat} {xs : Nat → Int32} {x4 : Int32} {x5 : Int32} {v6 : Value} {y0 : Int32} (h : jOk l G X cL_law 7 ret RL hg nc) (hsc : jScr G X L xs)
    (k1 : J l G X Q 7 1252 [.ref 2000, .ref 0, .ref 58, .ref 93, .int x4, .int x5, .int y0] [.ref 58] mu n) :
    J l G X Q 7 1249 [.ref 2000, .ref 0, .ref 58, .ref 93, .int x4, .int x5, v6] [.int y0] mu n := by
  refine J_istore h dL_law_1249 (by decide) rfl ?_
  show J l G X Q 7 1251 [.ref 2000, .ref 0, .ref 58, .ref 93, .int x4, .int x5, .int y0] [] mu n
  refine J_aload_n h dL_law_1251 rfl rfl ?_
  exact k1
theorem rL_law_1305 {l : Launch} {G : jG} {X : jX} {Q : State → Prop} {n hg nc : Nat} {ret : Option FieldType} {mu : jM} {L : Nat} {xs : Nat → Int32} {x4 : Int32} {x5 : Int32} {v6 : Value} {y0 : Int32} (h : jOk l G X cL_law 7 ret RL hg nc) (hsc : jScr G X L xs)
    (k1 : J l G X Q 7 1308 [.ref 2000, .ref 0, .ref 58, .ref 93, .int x4, .int x5, .int y0] [.ref 58] mu n) :
    J l G X Q 7 1305 [.ref 2000, .ref 0, .ref 58, .ref 93, .int x4, .int x5, v6] [.int y0] mu n := by
  refine J_istore h dL_law_1305 (by decide) rfl ?_
  show J l G X Q 7 1307 [.ref 2000, .ref 0, .ref 58, .ref 93, .int x4, .int x5, .int y0] [] mu n
  refine J_aload_n h dL_law_1307 rfl rfl ?_
  exact k1
theorem rL_law_167 {l : Launch} {G : jG} {X : jX} {Q : State → Prop} {n hg nc : Nat} {ret : Option FieldType} {mu : jM} {L : Nat} {xs : Nat → Int32} {x4 : Int32} {x5 : Int32} {v6 : Value} {Qc : Int32 → jM → Prop} {h' : Nat} (h : jOk l G X cL_law 7 ret RL hg nc) (hsc : jScr G X L xs) (hM : jCi l G yX8_thrown cX8_thrown 1 h' (some .int) (.ref 58 :: []) mu Qc) (hh : h' < hg ∧ 1 ≤ 21) (hn : n ≤ nc)
    (kk : ∀ v mu', Qc v mu' → J l G X Q 7 170 [.ref 2000, .ref 0, .ref 58, .ref 93, .int x4, .int x5, v6] (.int v :: []) mu' n) :
    J l G X Q 7 167 [.ref 2000, .ref 0, .ref 58, .ref 93, .int x4, .int x5, v6] [.ref 58] mu n :=
  J_callVi (As := []) (rest := []) h dL_law_167 hM (jgV w1118 w1119 w1120 w84 w1121) rfl (ci := 8) rfl rfl nmX8_thrown rfl hh (Nat.le_of_ble_eq_true rfl) rfl kk hn
theorem rL_law_218 {l : Launch} {G : jG} {X : jX} {Q : State → Prop} {n hg nc : Nat} {ret : Option FieldType} {mu : jM} {L : Nat} {xs : Nat → Int32} {x4 : Int32} {x5 : Int32} {x6 : Int32} {Qc : Int32 → jM → Prop} {h' : Nat} (h : jOk l G X cL_law 7 ret RL hg nc) (hsc : jScr G X L xs) (hM : jCi l G yX8_thrown cX8_thrown 1 h' (some .int) (.ref 58 :: []) mu Qc) (hh : h' < hg ∧ 1 ≤ 21) (hn : n ≤ nc)
    (kk : ∀ v mu', Qc v mu' → J l G X Q 7 221 [.ref 2000, .ref 0, .ref 58, .ref 93, .int x4, .int x5, .int x6] (.int v :: []) mu' n) :
    J l G X Q 7 218 [.ref 2000, .ref 0, .ref 58, .ref 93, .int x4, .int x5, .int x6] [.ref 58] mu n :=
  J_callVi (As := []) (rest := []) h dL_law_218 hM (jgV w1118 w1119 w1120 w84 w1121) rfl (ci := 8) rfl rfl nmX8_thrown rfl hh (Nat.le_of_ble_eq_true rfl) rfl kk hn
theorem rL_law_322 {l : Launch} {G : jG} {X : jX} {Q : State → Prop} {n hg nc : Nat} {ret : Option FieldType} {mu : jM} {L : Nat} {xs : Nat → Int32} {x4 : Int32} {x5 : Int32} {x6 : Int32} {Qc : Int32 → jM → Prop} {h' : Nat} (h : jOk l G X cL_law 7 ret RL hg nc) (hsc : jScr G X L xs) (hM : jCi l G yX8_thrown cX8_thrown 1 h' (some .int) (.ref 58 :: []) mu Qc) (hh : h' < hg ∧ 1 ≤ 21) (hn : n ≤ nc)
    (kk : ∀ v mu', Qc v mu' → J l G X Q 7 325 [.ref 2000, .ref 0, .ref 58, .ref 93, .int x4, .int x5, .int x6] (.int v :: []) mu' n) :
    J l G X Q 7 322 [.ref 2000, .ref 0, .ref 58, .ref 93, .int x4, .int x5, .int x6] [.ref 58] mu n :=
  J_callVi (As := []) (rest := []) h dL_law_322 hM (jgV w1118 w1119 w1120 w84 w1121) rfl (ci := 8) rfl rfl nmX8_thrown rfl hh (Nat.le_of_ble_eq_true rfl) rfl kk hn
theorem rL_law_378 {l : Launch} {G : jG} {X : jX} {Q : State → Prop} {n hg nc : Nat} {ret : Option FieldType} {mu : jM} {L : Nat} {xs : Nat → Int32} {x4 : Int32} {x5 : Int32} {x6 : Int32} {Qc : Int32 → jM → Prop} {h' : Nat} (h : jOk l G X cL_law 7 ret RL hg nc) (hsc : jScr G X L xs) (hM : jCi l G yX8_thrown cX8_thrown 1 h' (some .int) (.ref 58 :: []) mu Qc) (hh : h' < hg ∧ 1 ≤ 21) (hn : n ≤ nc)
    (kk : ∀ v mu', Qc v mu' → J l G X Q 7 381 [.ref 2000, .ref 0, .ref 58, .ref 93, .int x4, .int x5, .int x6] (.int v :: []) mu' n) :
    J l G X Q 7 378 [.ref 2000, .ref 0, .ref 58, .ref 93, .int x4, .int x5, .int x6] [.ref 58] mu n :=
  J_callVi (As := []) (rest := []) h dL_law_378 hM (jgV w1118 w1119 w1120 w84 w1121) rfl (ci := 8) rfl rfl nmX8_thrown rfl hh (Nat.le_of_ble_eq_true rfl) rfl kk hn
theorem rL_law_431 {l : Launch} {G : jG} {X : jX} {Q : State → Prop} {n hg nc : Nat} {ret : Option FieldType} {mu : jM} {L : Nat} {xs : Nat → Int32} {x4 : Int32} {x5 : Int32} {v6 : Value} {Qc : Int32 → jM → Prop} {h' : Nat} (h : jOk l G X cL_law 7 ret RL hg nc) (hsc : jScr G X L xs) (hM : jCi l G yX8_thrown cX8_thrown 1 h' (some .int) (.ref 58 :: []) mu Qc) (hh : h' < hg ∧ 1 ≤ 21) (hn : n ≤ nc)
    (kk : ∀ v mu', Qc v mu' → J l G X Q 7 434 [.ref 2000, .ref 0, .ref 58, .ref 93, .int x4, .int x5, v6] (.int v :: []) mu' n) :
    J l G X Q 7 431 [.ref 2000, .ref 0, .ref 58, .ref 93, .int x4, .int x5, v6] [.ref 58] mu n :=
  J_callVi (As := []) (rest := []) h dL_law_431 hM (jgV w1118 w1119 w1120 w84 w1121) rfl (ci := 8) rfl rfl nmX8_thrown rfl hh (Nat.le_of_ble_eq_true rfl) rfl kk hn
theorem rL_law_504 {l : Launch} {G : jG} {X : jX} {Q : State → Prop} {n hg nc : Nat} {ret : Option FieldType} {mu : jM} {L : Nat} {xs : Nat → Int32} {x4 : Int32} {x5 : Int32} {v6 : Value} {Qc : Int32 → jM → Prop} {h' : Nat} (h : jOk l G X cL_law 7 ret RL hg nc) (hsc : jScr G X L xs) (hM : jCi l G yX8_thrown cX8_thrown 1 h' (some .int) (.ref 58 :: []) mu Qc) (hh : h' < hg ∧ 1 ≤ 21) (hn : n ≤ nc)
    (kk : ∀ v mu', Qc v mu' → J l G X Q 7 507 [.ref 2000, .ref 0, .ref 58, .ref 93, .int x4, .int x5, v6] (.int v :: []) mu' n) :
    J l G X Q 7 504 [.ref 2000, .ref 0, .ref 58, .ref 93, .int x4, .int x5, v6] [.ref 58] mu n :=
  J_callVi (As := []) (rest := []) h dL_law_504 hM (jgV w1118 w1119 w1120 w84 w1121) rfl (ci := 8) rfl rfl nmX8_thrown rfl hh (Nat.le_of_ble_eq_true rfl) rfl kk hn
theorem rL_law_540 {l : Launch} {G : jG} {X : jX} {Q : State → Prop} {n hg nc : Nat} {ret : Option FieldType} {mu : jM} {L : Nat} {xs : Nat → Int32} {x4 : Int32} {x5 : Int32} {v6 : Value} {Qc : Int32 → jM → Prop} {h' : Nat} (h : jOk l G X cL_law 7 ret RL hg nc) (hsc : jScr G X L xs) (hM : jCi l G yX8_thrown cX8_thrown 1 h' (some .int) (.ref 58 :: []) mu Qc) (hh : h' < hg ∧ 1 ≤ 21) (hn : n ≤ nc)
    (kk : ∀ v mu', Qc v mu' → J l G X Q 7 543 [.ref 2000, .ref 0, .ref 58, .ref 93, .int x4, .int x5, v6] (.int v :: []) mu' n) :
    J l G X Q 7 540 [.ref 2000, .ref 0, .ref 58, .ref 93, .int x4, .int x5, v6] [.ref 58] mu n :=
  J_callVi (As := []) (rest := []) h dL_law_540 hM (jgV w1118 w1119 w1120 w84 w1121) rfl (ci := 8) rfl rfl nmX8_thrown rfl hh (Nat.le_of_ble_eq_true rfl) rfl kk hn
theorem rL_law_591 {l : Launch} {G : jG} {X : jX} {Q : State → Prop} {n hg nc : Nat} {ret : Option FieldType} {mu : jM} {L : Nat} {xs : Nat → Int32} {x4 : Int32} {x5 : Int32} {x6 : Int32} {Qc : Int32 → jM → Prop} {h' : Nat} (h : jOk l G X cL_law 7 ret RL hg nc) (hsc : jScr G X L xs) (hM : jCi l G yX8_thrown cX8_thrown 1 h' (some .int) (.ref 58 :: []) mu Qc) (hh : h' < hg ∧ 1 ≤ 21) (hn : n ≤ nc)
    (kk : ∀ v mu', Qc v mu' → J l G X Q 7 594 [.ref 2000, .ref 0, .ref 58, .ref 93, .int x4, .int x5, .int x6] (.int v :: []) mu' n) :
    J l G X Q 7 591 [.ref 2000, .ref 0, .ref 58, .ref 93, .int x4, .int x5, .int x6] [.ref 58] mu n :=
  J_callVi (As := []) (rest := []) h dL_law_591 hM (jgV w1118 w1119 w1120 w84 w1121) rfl (ci := 8) rfl rfl nmX8_thrown rfl hh (Nat.le_of_ble_eq_true rfl) rfl kk hn
theorem rL_law_659 {l : Launch} {G : jG} {X : jX} {Q : State → Prop} {n hg nc : Nat} {ret : Option FieldType} {mu : jM} {L : Nat} {xs : Nat → Int32} {x4 : Int32} {x5 : Int32} {x6 : Int32} {Qc : Int32 → jM → Prop} {h' : Nat} (h : jOk l G X cL_law 7 ret RL hg nc) (hsc : jScr G X L xs) (hM : jCi l G yX8_thrown cX8_thrown 1 h' (some .int) (.ref 58 :: []) mu Qc) (hh : h' < hg ∧ 1 ≤ 21) (hn : n ≤ nc)
    (kk : ∀ v mu', Qc v mu' → J l G X Q 7 662 [.ref 2000, .ref 0, .ref 58, .ref 93, .int x4, .int x5, .int x6] (.int v :: []) mu' n) :
    J l G X Q 7 659 [.ref 2000, .ref 0, .ref 58, .ref 93, .int x4, .int x5, .int x6] [.ref 58] mu n :=
  J_callVi (As := []) (rest := []) h dL_law_659 hM (jgV w1118 w1119 w1120 w84 w1121) rfl (ci := 8) rfl rfl nmX8_thrown rfl hh (Nat.le_of_ble_eq_true rfl) rfl kk hn
theorem rL_law_700 {l : Launch} {G : jG} {X : jX} {Q : State → Prop} {n hg nc : Nat} {ret : Option FieldType} {mu : jM} {L : Nat} {xs : Nat → Int32} {x4 : Int32} {x5 : Int32} {v6 : Value} {Qc : Int32 → jM → Prop} {h' : Nat} (h : jOk l G X cL_law 7 ret RL hg nc) (hsc : jScr G X L xs) (hM : jCi l G yX8_thrown cX8_thrown 1 h' (some .int) (.ref 58 :: []) mu Qc) (hh : h' < hg ∧ 1 ≤ 21) (hn : n ≤ nc)
    (kk : ∀ v mu', Qc v mu' → J l G X Q 7 703 [.ref 2000, .ref 0, .ref 58, .ref 93, .int x4, .int x5, v6] (.int v :: []) mu' n) :
    J l G X Q 7 700 [.ref 2000, .ref 0, .ref 58, .ref 93, .int x4, .int x5, v6] [.ref 58] mu n :=
  J_callVi (As := []) (rest := []) h dL_law_700 hM (jgV w1118 w1119 w1120 w84 w1121) rfl (ci := 8) rfl rfl nmX8_thrown rfl hh (Nat.le_of_ble_eq_true rfl) rfl kk hn
theorem rL_law_736 {l : Launch} {G : jG} {X : jX} {Q : State → Prop} {n hg nc : Nat} {ret : Option FieldType} {mu : jM} {L : Nat} {xs : Nat → Int32} {x4 : Int32} {x5 : Int32} {v6 : Value} {Qc : Int32 → jM → Prop} {h' : Nat} (h : jOk l G X cL_law 7 ret RL hg nc) (hsc : jScr G X L xs) (hM : jCi l G yX8_thrown cX8_thrown 1 h' (some .int) (.ref 58 :: []) mu Qc) (hh : h' < hg ∧ 1 ≤ 21) (hn : n ≤ nc)
    (kk : ∀ v mu', Qc v mu' → J l G X Q 7 739 [.ref 2000, .ref 0, .ref 58, .ref 93, .int x4, .int x5, v6] (.int v :: []) mu' n) :
    J l G X Q 7 736 [.ref 2000, .ref 0, .ref 58, .ref 93, .int x4, .int x5, v6] [.ref 58] mu n :=
  J_callVi (As := []) (rest := []) h dL_law_736 hM (jgV w1118 w1119 w1120 w84 w1121) rfl (ci := 8) rfl rfl nmX8_thrown rfl hh (Nat.le_of_ble_eq_true rfl) rfl kk hn
theorem rL_law_800 {l : Launch} {G : jG} {X : jX} {Q : State → Prop} {n hg nc : Nat} {ret : Option FieldType} {mu : jM} {L : Nat} {xs : Nat → Int32} {x4 : Int32} {x5 : Int32} {x6 : Int32} {Qc : Int32 → jM → Prop} {h' : Nat} (h : jOk l G X cL_law 7 ret RL hg nc) (hsc : jScr G X L xs) (hM : jCi l G yX8_thrown cX8_thrown 1 h' (some .int) (.ref 58 :: []) mu Qc) (hh : h' < hg ∧ 1 ≤ 21) (hn : n ≤ nc)
    (kk : ∀ v mu', Qc v mu' → J l G X Q 7 803 [.ref 2000, .ref 0, .ref 58, .ref 93, .int x4, .int x5, .int x6] (.int v :: []) mu' n) :
    J l G X Q 7 800 [.ref 2000, .ref 0, .ref 58, .ref 93, .int x4, .int x5, .int x6] [.ref 58] mu n :=
  J_callVi (As := []) (rest := []) h dL_law_800 hM (jgV w1118 w1119 w1120 w84 w1121) rfl (ci := 8) rfl rfl nmX8_thrown rfl hh (Nat.le_of_ble_eq_true rfl) rfl kk hn
theorem rL_law_856 {l : Launch} {G : jG} {X : jX} {Q : State → Prop} {n hg nc : Nat} {ret : Option FieldType} {mu : jM} {L : Nat} {xs : Nat → Int32} {x4 : Int32} {x5 : Int32} {x6 : Int32} {Qc : Int32 → jM → Prop} {h' : Nat} (h : jOk l G X cL_law 7 ret RL hg nc) (hsc : jScr G X L xs) (hM : jCi l G yX8_thrown cX8_thrown 1 h' (some .int) (.ref 58 :: []) mu Qc) (hh : h' < hg ∧ 1 ≤ 21) (hn : n ≤ nc)
    (kk : ∀ v mu', Qc v mu' → J l G X Q 7 859 [.ref 2000, .ref 0, .ref 58, .ref 93, .int x4, .int x5, .int x6] (.int v :: []) mu' n) :
    J l G X Q 7 856 [.ref 2000, .ref 0, .ref 58, .ref 93, .int x4, .int x5, .int x6] [.ref 58] mu n :=
  J_callVi (As := []) (rest := []) h dL_law_856 hM (jgV w1118 w1119 w1120 w84 w1121) rfl (ci := 8) rfl rfl nmX8_thrown rfl hh (Nat.le_of_ble_eq_true rfl) rfl kk hn
theorem rL_law_936 {l : Launch} {G : jG} {X : jX} {Q : State → Prop} {n hg nc : Nat} {ret : Option FieldType} {mu : jM} {L : Nat} {xs : Nat → Int32} {x4 : Int32} {x5 : Int32} {x6 : Int32} {Qc : Int32 → jM → Prop} {h' : Nat} (h : jOk l G X cL_law 7 ret RL hg nc) (hsc : jScr G X L xs) (hM : jCi l G yX8_thrown cX8_thrown 1 h' (some .int) (.ref 58 :: []) mu Qc) (hh : h' < hg ∧ 1 ≤ 21) (hn : n ≤ nc)
    (kk : ∀ v mu', Qc v mu' → J l G X Q 7 939 [.ref 2000, .ref 0, .ref 58, .ref 93, .int x4, .int x5, .int x6] (.int v :: []) mu' n) :
    J l G X Q 7 936 [.ref 2000, .ref 0, .ref 58, .ref 93, .int x4, .int x5, .int x6] [.ref 58] mu n :=
  J_callVi (As := []) (rest := []) h dL_law_936 hM (jgV w1118 w1119 w1120 w84 w1121) rfl (ci := 8) rfl rfl nmX8_thrown rfl hh (Nat.le_of_ble_eq_true rfl) rfl kk hn
theorem rL_law_992 {l : Launch} {G : jG} {X : jX} {Q : State → Prop} {n hg nc : Nat} {ret : Option FieldType} {mu : jM} {L : Nat} {xs : Nat → Int32} {x4 : Int32} {x5 : Int32} {x6 : Int32} {Qc : Int32 → jM → Prop} {h' : Nat} (h : jOk l G X cL_law 7 ret RL hg nc) (hsc : jScr G X L xs) (hM : jCi l G yX8_thrown cX8_thrown 1 h' (some .int) (.ref 58 :: []) mu Qc) (hh : h' < hg ∧ 1 ≤ 21) (hn : n ≤ nc)
    (kk : ∀ v mu', Qc v mu' → J l G X Q 7 995 [.ref 2000, .ref 0, .ref 58, .ref 93, .int x4, .int x5, .int x6] (.int v :: []) mu' n) :
    J l G X Q 7 992 [.ref 2000, .ref 0, .ref 58, .ref 93, .int x4, .int x5, .int x6] [.ref 58] mu n :=
  J_callVi (As := []) (rest := []) h dL_law_992 hM (jgV w1118 w1119 w1120 w84 w1121) rfl (ci := 8) rfl rfl nmX8_thrown rfl hh (Nat.le_of_ble_eq_true rfl) rfl kk hn
theorem rL_law_1048 {l : Launch} {G : jG} {X : jX} {Q : State → Prop} {n hg nc : Nat} {ret : Option FieldType} {mu : jM} {L : Nat} {xs : Nat → Int32} {x4 : Int32} {x5 : Int32} {x6 : Int32} {Qc : Int32 → jM → Prop} {h' : Nat} (h : jOk l G X cL_law 7 ret RL hg nc) (hsc : jScr G X L xs) (hM : jCi l G yX8_thrown cX8_thrown 1 h' (some .int) (.ref 58 :: []) mu Qc) (hh : h' < hg ∧ 1 ≤ 21) (hn : n ≤ nc)
    (kk : ∀ v mu', Qc v mu' → J l G X Q 7 1051 [.ref 2000, .ref 0, .ref 58, .ref 93, .int x4, .int x5, .int x6] (.int v :: []) mu' n) :
    J l G X Q 7 1048 [.ref 2000, .ref 0, .ref 58, .ref 93, .int x4, .int x5, .int x6] [.ref 58] mu n :=
  J_callVi (As := []) (rest := []) h dL_law_1048 hM (jgV w1118 w1119 w1120 w84 w1121) rfl (ci := 8) rfl rfl nmX8_thrown rfl hh (Nat.le_of_ble_eq_true rfl) rfl kk hn
theorem rL_law_1116 {l : Launch} {G : jG} {X : jX} {Q : State → Prop} {n hg nc : Nat} {ret : Option FieldType} {mu : jM} {L : Nat} {xs : Nat → Int32} {x4 : Int32} {x5 : Int32} {x6 : Int32} {Qc : Int32 → jM → Prop} {h' : Nat} (h : jOk l G X cL_law 7 ret RL hg nc) (hsc : jScr G X L xs) (hM : jCi l G yX8_thrown cX8_thrown 1 h' (some .int) (.ref 58 :: []) mu Qc) (hh : h' < hg ∧ 1 ≤ 21) (hn : n ≤ nc)
    (kk : ∀ v mu', Qc v mu' → J l G X Q 7 1119 [.ref 2000, .ref 0, .ref 58, .ref 93, .int x4, .int x5, .int x6] (.int v :: []) mu' n) :
    J l G X Q 7 1116 [.ref 2000, .ref 0, .ref 58, .ref 93, .int x4, .int x5, .int x6] [.ref 58] mu n :=
  J_callVi (As := []) (rest := []) h dL_law_1116 hM (jgV w1118 w1119 w1120 w84 w1121) rfl (ci := 8) rfl rfl nmX8_thrown rfl hh (Nat.le_of_ble_eq_true rfl) rfl kk hn
theorem rL_law_1184 {l : Launch} {G : jG} {X : jX} {Q : State → Prop} {n hg nc : Nat} {ret : Option FieldType} {mu : jM} {L : Nat} {xs : Nat → Int32} {x4 : Int32} {x5 : Int32} {x6 : Int32} {Qc : Int32 → jM → Prop} {h' : Nat} (h : jOk l G X cL_law 7 ret RL hg nc) (hsc : jScr G X L xs) (hM : jCi l G yX8_thrown cX8_thrown 1 h' (some .int) (.ref 58 :: []) mu Qc) (hh : h' < hg ∧ 1 ≤ 21) (hn : n ≤ nc)
    (kk : ∀ v mu', Qc v mu' → J l G X Q 7 1187 [.ref 2000, .ref 0, .ref 58, .ref 93, .int x4, .int x5, .int x6] (.int v :: []) mu' n) :
    J l G X Q 7 1184 [.ref 2000, .ref 0, .ref 58, .ref 93, .int x4, .int x5, .int x6] [.ref 58] mu n :=
  J_callVi (As := []) (rest := []) h dL_law_1184 hM (jgV w1118 w1119 w1120 w84 w1121) rfl (ci := 8) rfl rfl nmX8_thrown rfl hh (Nat.le_of_ble_eq_true rfl) rfl kk hn
theorem rL_law_1252 {l : Launch} {G : jG} {X : jX} {Q : State → Prop} {n hg nc : Nat} {ret : Option FieldType} {mu : jM} {L : Nat} {xs : Nat → Int32} {x4 : Int32} {x5 : Int32} {x6 : Int32} {Qc : Int32 → jM → Prop} {h' : Nat} (h : jOk l G X cL_law 7 ret RL hg nc) (hsc : jScr G X L xs) (hM : jCi l G yX8_thrown cX8_thrown 1 h' (some .int) (.ref 58 :: []) mu Qc) (hh : h' < hg ∧ 1 ≤ 21) (hn : n ≤ nc)
    (kk : ∀ v mu', Qc v mu' → J l G X Q 7 1255 [.ref 2000, .ref 0, .ref 58, .ref 93, .int x4, .int x5, .int x6] (.int v :: []) mu' n) :
    J l G X Q 7 1252 [.ref 2000, .ref 0, .ref 58, .ref 93, .int x4, .int x5, .int x6] [.ref 58] mu n :=
  J_callVi (As := []) (rest := []) h dL_law_1252 hM (jgV w1118 w1119 w1120 w84 w1121) rfl (ci := 8) rfl rfl nmX8_thrown rfl hh (Nat.le_of_ble_eq_true rfl) rfl kk hn
theorem rL_law_1308 {l : Launch} {G : jG} {X : jX} {Q : State → Prop} {n hg nc : Nat} {ret : Option FieldType} {mu : jM} {L : Nat} {xs : Nat → Int32} {x4 : Int32} {x5 : Int32} {x6 : Int32} {Qc : Int32 → jM → Prop} {h' : Nat} (h : jOk l G X cL_law 7 ret RL hg nc) (hsc : jScr G X L xs) (hM : jCi l G yX8_thrown cX8_thrown 1 h' (some .int) (.ref 58 :: []) mu Qc) (hh : h' < hg ∧ 1 ≤ 21) (hn : n ≤ nc)
    (kk : ∀ v mu', Qc v mu' → J l G X Q 7 1311 [.ref 2000, .ref 0, .ref 58, .ref 93, .int x4, .int x5, .int x6] (.int v :: []) mu' n) :
    J l G X Q 7 1308 [.ref 2000, .ref 0, .ref 58, .ref 93, .int x4, .int x5, .int x6] [.ref 58] mu n :=
  J_callVi (As := []) (rest := []) h dL_law_1308 hM (jgV w1118 w1119 w1120 w84 w1121) rfl (ci := 8) rfl rfl nmX8_thrown rfl hh (Nat.le_of_ble_eq_true rfl) rfl kk hn
theorem rL_law_170 {l : Launch} {G : jG} {X : jX} {Q : State → Prop} {n hg nc : Nat} {ret : Option FieldType} {mu : jM} {L : Nat} {xs : Nat → Int32} {x4 : Int32} {x5 : Int32} {v6 : Value} {y0 : Int32} (h : jOk l G X cL_law 7 ret RL hg nc) (hsc : jScr G X L xs)
    (k2 : y0 = x5 → J l G X Q 7 1338 [.ref 2000, .ref 0, .ref 58, .ref 93, .int x4, .int x5, v6] [] mu n)
    (k3 : ¬ y0 = x5 → J l G X Q 7 176 [.ref 2000, .ref 0, .ref 58, .ref 93, .int x4, .int x5, v6] [.int 0] mu n) :
    J l G X Q 7 170 [.ref 2000, .ref 0, .ref 58, .ref 93, .int x4, .int x5, v6] [.int y0] mu n := by
  refine J_iload h dL_law_170 rfl ?_
  refine J_icmp_eq (tgt := 177) h dL_law_172 (by decide) (fun q1 => ?_) (fun q1 => ?_)
  · skip
    refine J_goto (tgt := 1338) h dL_law_177 (by decide) ?_
    exact k2 q1
  · skip
    refine J_iconst h dL_law_175 ci_0 ?_
    exact k3 q1
theorem rL_law_221 {l : Launch} {G : jG} {X : jX} {Q : State → Prop} {n hg nc : Nat} {ret : Option FieldType} {mu : jM} {L : Nat} {xs : Nat → Int32} {x4 : Int32} {x5 : Int32} {x6 : Int32} {y0 : Int32} (h : jOk l G X cL_law 7 ret RL hg nc) (hsc : jScr G X L xs)
    (k3 : y0 = x5 → ¬ x5 = 0 → J l G X Q 7 245 [.ref 2000, .ref 0, .ref 58, .ref 93, .int x4, .int x5, .int x6] [] mu n)
    (k6 : y0 = x5 → x5 = 0 → (lg_cmp (Int32.toInt64 (mu 93 (0 : Int32).toNatClampNeg)) (Int32.toInt64 x6)) = 0 → J l G X Q 7 245 [.ref 2000, .ref 0, .ref 58, .ref 93, .int x4, .int x5, .int x6] [] mu n)
    (k7 : y0 = x5 → x5 = 0 → ¬ (lg_cmp (Int32.toInt64 (mu 93 (0 : Int32).toNatClampNeg)) (Int32.toInt64 x6)) = 0 → J l G X Q 7 244 [.ref 2000, .ref 0, .ref 58, .ref 93, .int x4, .int x5, .int x6] [.int 0] mu n)
    (k8 : ¬ y0 = x5 → J l G X Q 7 227 [.ref 2000, .ref 0, .ref 58, .ref 93, .int x4, .int x5, .int x6] [.int 0] mu n) :
    J l G X Q 7 221 [.ref 2000, .ref 0, .ref 58, .ref 93, .int x4, .int x5, .int x6] [.int y0] mu n := by
  refine J_iload h dL_law_221 rfl ?_
  refine J_icmp_eq (tgt := 228) h dL_law_223 (by decide) (fun q1 => ?_) (fun q1 => ?_)
  · skip
    refine J_iload h dL_law_228 rfl ?_
    refine J_if_ne (tgt := 245) h dL_law_230 (by decide) (fun q2 => ?_) (fun q2 => ?_)
    · skip
      exact k3 q1 q2
    · skip
      refine J_aload_n h dL_law_233 rfl rfl ?_
      refine J_iconst h dL_law_234 ci_0 ?_
      refine J_lald h dL_law_235 rfl (jin (by decide)) ?_
      refine J_iload h dL_law_236 rfl ?_
      refine J_i2l h dL_law_238 ?_
      refine J_lcmp h dL_law_239 ?_
      refine J_if_eq (tgt := 245) h dL_law_240 (by decide) (fun q5 => ?_) (fun q5 => ?_)
      · skip
        exact k6 q1 q2 q5
      · skip
        refine J_iconst h dL_law_243 ci_0 ?_
        exact k7 q1 q2 q5
  · skip
    refine J_iconst h dL_law_226 ci_0 ?_
    exact k8 q1
theorem rL_law_325 {l : Launch} {G : jG} {X : jX} {Q : State → Prop} {n hg nc : Nat} {ret : Option FieldType} {mu : jM} {L : Nat} {xs : Nat → Int32} {x4 : Int32} {x5 : Int32} {x6 : Int32} {y0 : Int32} (h : jOk l G X cL_law 7 ret RL hg nc) (hsc : jScr G X L xs)
    (k3 : y0 = x5 → ¬ x5 = 0 → J l G X Q 7 349 [.ref 2000, .ref 0, .ref 58, .ref 93, .int x4, .int x5, .int x6] [] mu n)
    (k6 : y0 = x5 → x5 = 0 → (lg_cmp (Int32.toInt64 (mu 93 (0 : Int32).toNatClampNeg)) (Int32.toInt64 x6)) = 0 → J l G X Q 7 349 [.ref 2000, .ref 0, .ref 58, .ref 93, .int x4, .int x5, .int x6] [] mu n)
    (k7 : y0 = x5 → x5 = 0 → ¬ (lg_cmp (Int32.toInt64 (mu 93 (0 : Int32).toNatClampNeg)) (Int32.toInt64 x6)) = 0 → J l G X Q 7 348 [.ref 2000, .ref 0, .ref 58, .ref 93, .int x4, .int x5, .int x6] [.int 0] mu n)
    (k8 : ¬ y0 = x5 → J l G X Q 7 331 [.ref 2000, .ref 0, .ref 58, .ref 93, .int x4, .int x5, .int x6] [.int 0] mu n) :
    J l G X Q 7 325 [.ref 2000, .ref 0, .ref 58, .ref 93, .int x4, .int x5, .int x6] [.int y0] mu n := by
  refine J_iload h dL_law_325 rfl ?_
  refine J_icmp_eq (tgt := 332) h dL_law_327 (by decide) (fun q1 => ?_) (fun q1 => ?_)
  · skip
    refine J_iload h dL_law_332 rfl ?_
    refine J_if_ne (tgt := 349) h dL_law_334 (by decide) (fun q2 => ?_) (fun q2 => ?_)
    · skip
      exact k3 q1 q2
    · skip
      refine J_aload_n h dL_law_337 rfl rfl ?_
      refine J_iconst h dL_law_338 ci_0 ?_
      refine J_lald h dL_law_339 rfl (jin (by decide)) ?_
      refine J_iload h dL_law_340 rfl ?_
      refine J_i2l h dL_law_342 ?_
      refine J_lcmp h dL_law_343 ?_
      refine J_if_eq (tgt := 349) h dL_law_344 (by decide) (fun q5 => ?_) (fun q5 => ?_)
      · skip
        exact k6 q1 q2 q5
      · skip
        refine J_iconst h dL_law_347 ci_0 ?_
        exact k7 q1 q2 q5
  · skip
    refine J_iconst h dL_law_330 ci_0 ?_
    exact k8 q1
theorem rL_law_381 {l : Launch} {G : jG} {X : jX} {Q : State → Prop} {n hg nc : Nat} {ret : Option FieldType} {mu : jM} {L : Nat} {xs : Nat → Int32} {x4 : Int32} {x5 : Int32} {x6 : Int32} {y0 : Int32} (h : jOk l G X cL_law 7 ret RL hg nc) (hsc : jScr G X L xs)
    (k3 : y0 = x5 → ¬ x5 = 0 → J l G X Q 7 405 [.ref 2000, .ref 0, .ref 58, .ref 93, .int x4, .int x5, .int x6] [] mu n)
    (k6 : y0 = x5 → x5 = 0 → (lg_cmp (Int32.toInt64 (mu 93 (0 : Int32).toNatClampNeg)) (Int32.toInt64 x6)) = 0 → J l G X Q 7 405 [.ref 2000, .ref 0, .ref 58, .ref 93, .int x4, .int x5, .int x6] [] mu n)
    (k7 : y0 = x5 → x5 = 0 → ¬ (lg_cmp (Int32.toInt64 (mu 93 (0 : Int32).toNatClampNeg)) (Int32.toInt64 x6)) = 0 → J l G X Q 7 404 [.ref 2000, .ref 0, .ref 58, .ref 93, .int x4, .int x5, .int x6] [.int 0] mu n)
    (k8 : ¬ y0 = x5 → J l G X Q 7 387 [.ref 2000, .ref 0, .ref 58, .ref 93, .int x4, .int x5, .int x6] [.int 0] mu n) :
    J l G X Q 7 381 [.ref 2000, .ref 0, .ref 58, .ref 93, .int x4, .int x5, .int x6] [.int y0] mu n := by
  refine J_iload h dL_law_381 rfl ?_
  refine J_icmp_eq (tgt := 388) h dL_law_383 (by decide) (fun q1 => ?_) (fun q1 => ?_)
  · skip
    refine J_iload h dL_law_388 rfl ?_
    refine J_if_ne (tgt := 405) h dL_law_390 (by decide) (fun q2 => ?_) (fun q2 => ?_)
    · skip
      exact k3 q1 q2
    · skip
      refine J_aload_n h dL_law_393 rfl rfl ?_
      refine J_iconst h dL_law_394 ci_0 ?_
      refine J_lald h dL_law_395 rfl (jin (by decide)) ?_
      refine J_iload h dL_law_396 rfl ?_
      refine J_i2l h dL_law_398 ?_
      refine J_lcmp h dL_law_399 ?_
      refine J_if_eq (tgt := 405) h dL_law_400 (by decide) (fun q5 => ?_) (fun q5 => ?_)
      · skip
        exact k6 q1 q2 q5
      · skip
        refine J_iconst h dL_law_403 ci_0 ?_
        exact k7 q1 q2 q5
  · skip
    refine J_iconst h dL_law_386 ci_0 ?_
    exact k8 q1
theorem rL_law_434 {l : Launch} {G : jG} {X : jX} {Q : State → Prop} {n hg nc : Nat} {ret : Option FieldType} {mu : jM} {L : Nat} {xs : Nat → Int32} {x4 : Int32} {x5 : Int32} {v6 : Value} {y0 : Int32} (h : jOk l G X cL_law 7 ret RL hg nc) (hsc : jScr G X L xs)
    (k2 : y0 = x5 → J l G X Q 7 1338 [.ref 2000, .ref 0, .ref 58, .ref 93, .int x4, .int x5, v6] [] mu n)
    (k3 : ¬ y0 = x5 → J l G X Q 7 440 [.ref 2000, .ref 0, .ref 58, .ref 93, .int x4, .int x5, v6] [.int 0] mu n) :
    J l G X Q 7 434 [.ref 2000, .ref 0, .ref 58, .ref 93, .int x4, .int x5, v6] [.int y0] mu n := by
  refine J_iload h dL_law_434 rfl ?_
  refine J_icmp_eq (tgt := 441) h dL_law_436 (by decide) (fun q1 => ?_) (fun q1 => ?_)
  · skip
    refine J_goto (tgt := 1338) h dL_law_441 (by decide) ?_
    exact k2 q1
  · skip
    refine J_iconst h dL_law_439 ci_0 ?_
    exact k3 q1
theorem rL_law_507 {l : Launch} {G : jG} {X : jX} {Q : State → Prop} {n hg nc : Nat} {ret : Option FieldType} {mu : jM} {L : Nat} {xs : Nat → Int32} {x4 : Int32} {x5 : Int32} {v6 : Value} {y0 : Int32} (h : jOk l G X cL_law 7 ret RL hg nc) (hsc : jScr G X L xs)
    (k2 : y0 = x5 → J l G X Q 7 1338 [.ref 2000, .ref 0, .ref 58, .ref 93, .int x4, .int x5, v6] [] mu n)
    (k3 : ¬ y0 = x5 → J l G X Q 7 513 [.ref 2000, .ref 0, .ref 58, .ref 93, .int x4, .int x5, v6] [.int 0] mu n) :
    J l G X Q 7 507 [.ref 2000, .ref 0, .ref 58, .ref 93, .int x4, .int x5, v6] [.int y0] mu n := by
  refine J_iload h dL_law_507 rfl ?_
  refine J_icmp_eq (tgt := 514) h dL_law_509 (by decide) (fun q1 => ?_) (fun q1 => ?_)
  · skip
    refine J_goto (tgt := 1338) h dL_law_514 (by decide) ?_
    exact k2 q1
  · skip
    refine J_iconst h dL_law_512 ci_0 ?_
    exact k3 q1
theorem rL_law_543 {l : Launch} {G : jG} {X : jX} {Q : State → Prop} {n hg nc : Nat} {ret : Option FieldType} {mu : jM} {L : Nat} {xs : Nat → Int32} {x4 : Int32} {x5 : Int32} {v6 : Value} {y0 : Int32} (h : jOk l G X cL_law 7 ret RL hg nc) (hsc : jScr G X L xs)
    (k2 : y0 = x5 → J l G X Q 7 1338 [.ref 2000, .ref 0, .ref 58, .ref 93, .int x4, .int x5, v6] [] mu n)
    (k3 : ¬ y0 = x5 → J l G X Q 7 549 [.ref 2000, .ref 0, .ref 58, .ref 93, .int x4, .int x5, v6] [.int 0] mu n) :
    J l G X Q 7 543 [.ref 2000, .ref 0, .ref 58, .ref 93, .int x4, .int x5, v6] [.int y0] mu n := by
  refine J_iload h dL_law_543 rfl ?_
  refine J_icmp_eq (tgt := 550) h dL_law_545 (by decide) (fun q1 => ?_) (fun q1 => ?_)
  · skip
    refine J_goto (tgt := 1338) h dL_law_550 (by decide) ?_
    exact k2 q1
  · skip
    refine J_iconst h dL_law_548 ci_0 ?_
    exact k3 q1
theorem rL_law_594 {l : Launch} {G : jG} {X : jX} {Q : State → Prop} {n hg nc : Nat} {ret : Option FieldType} {mu : jM} {L : Nat} {xs : Nat → Int32} {x4 : Int32} {x5 : Int32} {x6 : Int32} {y0 : Int32} (h : jOk l G X cL_law 7 ret RL hg nc) (hsc : jScr G X L xs)
    (k3 : y0 = x5 → ¬ x5 = 0 → J l G X Q 7 618 [.ref 2000, .ref 0, .ref 58, .ref 93, .int x4, .int x5, .int x6] [] mu n)
    (k6 : y0 = x5 → x5 = 0 → (lg_cmp (Int32.toInt64 (mu 93 (0 : Int32).toNatClampNeg)) (Int32.toInt64 x6)) = 0 → J l G X Q 7 618 [.ref 2000, .ref 0, .ref 58, .ref 93, .int x4, .int x5, .int x6] [] mu n)
    (k7 : y0 = x5 → x5 = 0 → ¬ (lg_cmp (Int32.toInt64 (mu 93 (0 : Int32).toNatClampNeg)) (Int32.toInt64 x6)) = 0 → J l G X Q 7 617 [.ref 2000, .ref 0, .ref 58, .ref 93, .int x4, .int x5, .int x6] [.int 0] mu n)
    (k8 : ¬ y0 = x5 → J l G X Q 7 600 [.ref 2000, .ref 0, .ref 58, .ref 93, .int x4, .int x5, .int x6] [.int 0] mu n) :
    J l G X Q 7 594 [.ref 2000, .ref 0, .ref 58, .ref 93, .int x4, .int x5, .int x6] [.int y0] mu n := by
  refine J_iload h dL_law_594 rfl ?_
  refine J_icmp_eq (tgt := 601) h dL_law_596 (by decide) (fun q1 => ?_) (fun q1 => ?_)
  · skip
    refine J_iload h dL_law_601 rfl ?_
    refine J_if_ne (tgt := 618) h dL_law_603 (by decide) (fun q2 => ?_) (fun q2 => ?_)
    · skip
      exact k3 q1 q2
    · skip
      refine J_aload_n h dL_law_606 rfl rfl ?_
      refine J_iconst h dL_law_607 ci_0 ?_
      refine J_lald h dL_law_608 rfl (jin (by decide)) ?_
      refine J_iload h dL_law_609 rfl ?_
      refine J_i2l h dL_law_611 ?_
      refine J_lcmp h dL_law_612 ?_
      refine J_if_eq (tgt := 618) h dL_law_613 (by decide) (fun q5 => ?_) (fun q5 => ?_)
      · skip
        exact k6 q1 q2 q5
      · skip
        refine J_iconst h dL_law_616 ci_0 ?_
        exact k7 q1 q2 q5
  · skip
    refine J_iconst h dL_law_599 ci_0 ?_
    exact k8 q1
theorem rL_law_662 {l : Launch} {G : jG} {X : jX} {Q : State → Prop} {n hg nc : Nat} {ret : Option FieldType} {mu : jM} {L : Nat} {xs : Nat → Int32} {x4 : Int32} {x5 : Int32} {x6 : Int32} {y0 : Int32} (h : jOk l G X cL_law 7 ret RL hg nc) (hsc : jScr G X L xs)
    (k3 : y0 = x5 → ¬ x5 = 0 → J l G X Q 7 686 [.ref 2000, .ref 0, .ref 58, .ref 93, .int x4, .int x5, .int x6] [] mu n)
    (k6 : y0 = x5 → x5 = 0 → (lg_cmp (Int32.toInt64 (mu 93 (0 : Int32).toNatClampNeg)) (Int32.toInt64 x6)) = 0 → J l G X Q 7 686 [.ref 2000, .ref 0, .ref 58, .ref 93, .int x4, .int x5, .int x6] [] mu n)
    (k7 : y0 = x5 → x5 = 0 → ¬ (lg_cmp (Int32.toInt64 (mu 93 (0 : Int32).toNatClampNeg)) (Int32.toInt64 x6)) = 0 → J l G X Q 7 685 [.ref 2000, .ref 0, .ref 58, .ref 93, .int x4, .int x5, .int x6] [.int 0] mu n)
    (k8 : ¬ y0 = x5 → J l G X Q 7 668 [.ref 2000, .ref 0, .ref 58, .ref 93, .int x4, .int x5, .int x6] [.int 0] mu n) :
    J l G X Q 7 662 [.ref 2000, .ref 0, .ref 58, .ref 93, .int x4, .int x5, .int x6] [.int y0] mu n := by
  refine J_iload h dL_law_662 rfl ?_
  refine J_icmp_eq (tgt := 669) h dL_law_664 (by decide) (fun q1 => ?_) (fun q1 => ?_)
  · skip
    refine J_iload h dL_law_669 rfl ?_
    refine J_if_ne (tgt := 686) h dL_law_671 (by decide) (fun q2 => ?_) (fun q2 => ?_)
    · skip
      exact k3 q1 q2
    · skip
      refine J_aload_n h dL_law_674 rfl rfl ?_
      refine J_iconst h dL_law_675 ci_0 ?_
      refine J_lald h dL_law_676 rfl (jin (by decide)) ?_
      refine J_iload h dL_law_677 rfl ?_
      refine J_i2l h dL_law_679 ?_
      refine J_lcmp h dL_law_680 ?_
      refine J_if_eq (tgt := 686) h dL_law_681 (by decide) (fun q5 => ?_) (fun q5 => ?_)
      · skip
        exact k6 q1 q2 q5
      · skip
        refine J_iconst h dL_law_684 ci_0 ?_
        exact k7 q1 q2 q5
  · skip
    refine J_iconst h dL_law_667 ci_0 ?_
    exact k8 q1
theorem rL_law_703 {l : Launch} {G : jG} {X : jX} {Q : State → Prop} {n hg nc : Nat} {ret : Option FieldType} {mu : jM} {L : Nat} {xs : Nat → Int32} {x4 : Int32} {x5 : Int32} {v6 : Value} {y0 : Int32} (h : jOk l G X cL_law 7 ret RL hg nc) (hsc : jScr G X L xs)
    (k2 : y0 = x5 → J l G X Q 7 1338 [.ref 2000, .ref 0, .ref 58, .ref 93, .int x4, .int x5, v6] [] mu n)
    (k3 : ¬ y0 = x5 → J l G X Q 7 709 [.ref 2000, .ref 0, .ref 58, .ref 93, .int x4, .int x5, v6] [.int 0] mu n) :
    J l G X Q 7 703 [.ref 2000, .ref 0, .ref 58, .ref 93, .int x4, .int x5, v6] [.int y0] mu n := by
  refine J_iload h dL_law_703 rfl ?_
  refine J_icmp_eq (tgt := 710) h dL_law_705 (by decide) (fun q1 => ?_) (fun q1 => ?_)
  · skip
    refine J_goto (tgt := 1338) h dL_law_710 (by decide) ?_
    exact k2 q1
  · skip
    refine J_iconst h dL_law_708 ci_0 ?_
    exact k3 q1
theorem rL_law_739 {l : Launch} {G : jG} {X : jX} {Q : State → Prop} {n hg nc : Nat} {ret : Option FieldType} {mu : jM} {L : Nat} {xs : Nat → Int32} {x4 : Int32} {x5 : Int32} {v6 : Value} {y0 : Int32} (h : jOk l G X cL_law 7 ret RL hg nc) (hsc : jScr G X L xs)
    (k2 : y0 = x5 → J l G X Q 7 1338 [.ref 2000, .ref 0, .ref 58, .ref 93, .int x4, .int x5, v6] [] mu n)
    (k3 : ¬ y0 = x5 → J l G X Q 7 745 [.ref 2000, .ref 0, .ref 58, .ref 93, .int x4, .int x5, v6] [.int 0] mu n) :
    J l G X Q 7 739 [.ref 2000, .ref 0, .ref 58, .ref 93, .int x4, .int x5, v6] [.int y0] mu n := by
  refine J_iload h dL_law_739 rfl ?_
  refine J_icmp_eq (tgt := 746) h dL_law_741 (by decide) (fun q1 => ?_) (fun q1 => ?_)
  · skip
    refine J_goto (tgt := 1338) h dL_law_746 (by decide) ?_
    exact k2 q1
  · skip
    refine J_iconst h dL_law_744 ci_0 ?_
    exact k3 q1
theorem rL_law_803 {l : Launch} {G : jG} {X : jX} {Q : State → Prop} {n hg nc : Nat} {ret : Option FieldType} {mu : jM} {L : Nat} {xs : Nat → Int32} {x4 : Int32} {x5 : Int32} {x6 : Int32} {y0 : Int32} (h : jOk l G X cL_law 7 ret RL hg nc) (hsc : jScr G X L xs)
    (k3 : y0 = x5 → ¬ x5 = 0 → J l G X Q 7 827 [.ref 2000, .ref 0, .ref 58, .ref 93, .int x4, .int x5, .int x6] [] mu n)
    (k6 : y0 = x5 → x5 = 0 → (lg_cmp (Int32.toInt64 (mu 93 (0 : Int32).toNatClampNeg)) (Int32.toInt64 x6)) = 0 → J l G X Q 7 827 [.ref 2000, .ref 0, .ref 58, .ref 93, .int x4, .int x5, .int x6] [] mu n)
    (k7 : y0 = x5 → x5 = 0 → ¬ (lg_cmp (Int32.toInt64 (mu 93 (0 : Int32).toNatClampNeg)) (Int32.toInt64 x6)) = 0 → J l G X Q 7 826 [.ref 2000, .ref 0, .ref 58, .ref 93, .int x4, .int x5, .int x6] [.int 0] mu n)
    (k8 : ¬ y0 = x5 → J l G X Q 7 809 [.ref 2000, .ref 0, .ref 58, .ref 93, .int x4, .int x5, .int x6] [.int 0] mu n) :
    J l G X Q 7 803 [.ref 2000, .ref 0, .ref 58, .ref 93, .int x4, .int x5, .int x6] [.int y0] mu n := by
  refine J_iload h dL_law_803 rfl ?_
  refine J_icmp_eq (tgt := 810) h dL_law_805 (by decide) (fun q1 => ?_) (fun q1 => ?_)
  · skip
    refine J_iload h dL_law_810 rfl ?_
    refine J_if_ne (tgt := 827) h dL_law_812 (by decide) (fun q2 => ?_) (fun q2 => ?_)
    · skip
      exact k3 q1 q2
    · skip
      refine J_aload_n h dL_law_815 rfl rfl ?_
      refine J_iconst h dL_law_816 ci_0 ?_
      refine J_lald h dL_law_817 rfl (jin (by decide)) ?_
      refine J_iload h dL_law_818 rfl ?_
      refine J_i2l h dL_law_820 ?_
      refine J_lcmp h dL_law_821 ?_
      refine J_if_eq (tgt := 827) h dL_law_822 (by decide) (fun q5 => ?_) (fun q5 => ?_)
      · skip
        exact k6 q1 q2 q5
      · skip
        refine J_iconst h dL_law_825 ci_0 ?_
        exact k7 q1 q2 q5
  · skip
    refine J_iconst h dL_law_808 ci_0 ?_
    exact k8 q1
theorem rL_law_859 {l : Launch} {G : jG} {X : jX} {Q : State → Prop} {n hg nc : Nat} {ret : Option FieldType} {mu : jM} {L : Nat} {xs : Nat → Int32} {x4 : Int32} {x5 : Int32} {x6 : Int32} {y0 : Int32} (h : jOk l G X cL_law 7 ret RL hg nc) (hsc : jScr G X L xs)
    (k3 : y0 = x5 → ¬ x5 = 0 → J l G X Q 7 883 [.ref 2000, .ref 0, .ref 58, .ref 93, .int x4, .int x5, .int x6] [] mu n)
    (k6 : y0 = x5 → x5 = 0 → (lg_cmp (Int32.toInt64 (mu 93 (0 : Int32).toNatClampNeg)) (Int32.toInt64 x6)) = 0 → J l G X Q 7 883 [.ref 2000, .ref 0, .ref 58, .ref 93, .int x4, .int x5, .int x6] [] mu n)
    (k7 : y0 = x5 → x5 = 0 → ¬ (lg_cmp (Int32.toInt64 (mu 93 (0 : Int32).toNatClampNeg)) (Int32.toInt64 x6)) = 0 → J l G X Q 7 882 [.ref 2000, .ref 0, .ref 58, .ref 93, .int x4, .int x5, .int x6] [.int 0] mu n)
    (k8 : ¬ y0 = x5 → J l G X Q 7 865 [.ref 2000, .ref 0, .ref 58, .ref 93, .int x4, .int x5, .int x6] [.int 0] mu n) :
    J l G X Q 7 859 [.ref 2000, .ref 0, .ref 58, .ref 93, .int x4, .int x5, .int x6] [.int y0] mu n := by
  refine J_iload h dL_law_859 rfl ?_
  refine J_icmp_eq (tgt := 866) h dL_law_861 (by decide) (fun q1 => ?_) (fun q1 => ?_)
  · skip
    refine J_iload h dL_law_866 rfl ?_
    refine J_if_ne (tgt := 883) h dL_law_868 (by decide) (fun q2 => ?_) (fun q2 => ?_)
    · skip
      exact k3 q1 q2
    · skip
      refine J_aload_n h dL_law_871 rfl rfl ?_
      refine J_iconst h dL_law_872 ci_0 ?_
      refine J_lald h dL_law_873 rfl (jin (by decide)) ?_
      refine J_iload h dL_law_874 rfl ?_
      refine J_i2l h dL_law_876 ?_
      refine J_lcmp h dL_law_877 ?_
      refine J_if_eq (tgt := 883) h dL_law_878 (by decide) (fun q5 => ?_) (fun q5 => ?_)
      · skip
        exact k6 q1 q2 q5
      · skip
        refine J_iconst h dL_law_881 ci_0 ?_
        exact k7 q1 q2 q5
  · skip
    refine J_iconst h dL_law_864 ci_0 ?_
    exact k8 q1
theorem rL_law_939 {l : Launch} {G : jG} {X : jX} {Q : State → Prop} {n hg nc : Nat} {ret : Option FieldType} {mu : jM} {L : Nat} {xs : Nat → Int32} {x4 : Int32} {x5 : Int32} {x6 : Int32} {y0 : Int32} (h : jOk l G X cL_law 7 ret RL hg nc) (hsc : jScr G X L xs)
    (k3 : y0 = x5 → ¬ x5 = 0 → J l G X Q 7 963 [.ref 2000, .ref 0, .ref 58, .ref 93, .int x4, .int x5, .int x6] [] mu n)
    (k6 : y0 = x5 → x5 = 0 → (lg_cmp (Int32.toInt64 (mu 93 (0 : Int32).toNatClampNeg)) (Int32.toInt64 x6)) = 0 → J l G X Q 7 963 [.ref 2000, .ref 0, .ref 58, .ref 93, .int x4, .int x5, .int x6] [] mu n)
    (k7 : y0 = x5 → x5 = 0 → ¬ (lg_cmp (Int32.toInt64 (mu 93 (0 : Int32).toNatClampNeg)) (Int32.toInt64 x6)) = 0 → J l G X Q 7 962 [.ref 2000, .ref 0, .ref 58, .ref 93, .int x4, .int x5, .int x6] [.int 0] mu n)
    (k8 : ¬ y0 = x5 → J l G X Q 7 945 [.ref 2000, .ref 0, .ref 58, .ref 93, .int x4, .int x5, .int x6] [.int 0] mu n) :
    J l G X Q 7 939 [.ref 2000, .ref 0, .ref 58, .ref 93, .int x4, .int x5, .int x6] [.int y0] mu n := by
  refine J_iload h dL_law_939 rfl ?_
  refine J_icmp_eq (tgt := 946) h dL_law_941 (by decide) (fun q1 => ?_) (fun q1 => ?_)
  · skip
    refine J_iload h dL_law_946 rfl ?_
    refine J_if_ne (tgt := 963) h dL_law_948 (by decide) (fun q2 => ?_) (fun q2 => ?_)
    · skip
      exact k3 q1 q2
    · skip
      refine J_aload_n h dL_law_951 rfl rfl ?_
      refine J_iconst h dL_law_952 ci_0 ?_
      refine J_lald h dL_law_953 rfl (jin (by decide)) ?_
      refine J_iload h dL_law_954 rfl ?_
      refine J_i2l h dL_law_956 ?_
      refine J_lcmp h dL_law_957 ?_
      refine J_if_eq (tgt := 963) h dL_law_958 (by decide) (fun q5 => ?_) (fun q5 => ?_)
      · skip
        exact k6 q1 q2 q5
      · skip
        refine J_iconst h dL_law_961 ci_0 ?_
        exact k7 q1 q2 q5
  · skip
    refine J_iconst h dL_law_944 ci_0 ?_
    exact k8 q1
theorem rL_law_995 {l : Launch} {G : jG} {X : jX} {Q : State → Prop} {n hg nc : Nat} {ret : Option FieldType} {mu : jM} {L : Nat} {xs : Nat → Int32} {x4 : Int32} {x5 : Int32} {x6 : Int32} {y0 : Int32} (h : jOk l G X cL_law 7 ret RL hg nc) (hsc : jScr G X L xs)
    (k3 : y0 = x5 → ¬ x5 = 0 → J l G X Q 7 1019 [.ref 2000, .ref 0, .ref 58, .ref 93, .int x4, .int x5, .int x6] [] mu n)
    (k6 : y0 = x5 → x5 = 0 → (lg_cmp (Int32.toInt64 (mu 93 (0 : Int32).toNatClampNeg)) (Int32.toInt64 x6)) = 0 → J l G X Q 7 1019 [.ref 2000, .ref 0, .ref 58, .ref 93, .int x4, .int x5, .int x6] [] mu n)
    (k7 : y0 = x5 → x5 = 0 → ¬ (lg_cmp (Int32.toInt64 (mu 93 (0 : Int32).toNatClampNeg)) (Int32.toInt64 x6)) = 0 → J l G X Q 7 1018 [.ref 2000, .ref 0, .ref 58, .ref 93, .int x4, .int x5, .int x6] [.int 0] mu n)
    (k8 : ¬ y0 = x5 → J l G X Q 7 1001 [.ref 2000, .ref 0, .ref 58, .ref 93, .int x4, .int x5, .int x6] [.int 0] mu n) :
    J l G X Q 7 995 [.ref 2000, .ref 0, .ref 58, .ref 93, .int x4, .int x5, .int x6] [.int y0] mu n := by
  refine J_iload h dL_law_995 rfl ?_
  refine J_icmp_eq (tgt := 1002) h dL_law_997 (by decide) (fun q1 => ?_) (fun q1 => ?_)
  · skip
    refine J_iload h dL_law_1002 rfl ?_
    refine J_if_ne (tgt := 1019) h dL_law_1004 (by decide) (fun q2 => ?_) (fun q2 => ?_)
    · skip
      exact k3 q1 q2
    · skip
      refine J_aload_n h dL_law_1007 rfl rfl ?_
      refine J_iconst h dL_law_1008 ci_0 ?_
      refine J_lald h dL_law_1009 rfl (jin (by decide)) ?_
      refine J_iload h dL_law_1010 rfl ?_
      refine J_i2l h dL_law_1012 ?_
      refine J_lcmp h dL_law_1013 ?_
      refine J_if_eq (tgt := 1019) h dL_law_1014 (by decide) (fun q5 => ?_) (fun q5 => ?_)
      · skip
        exact k6 q1 q2 q5
      · skip
        refine J_iconst h dL_law_1017 ci_0 ?_
        exact k7 q1 q2 q5
  · skip
    refine J_iconst h dL_law_1000 ci_0 ?_
    exact k8 q1
theorem rL_law_1051 {l : Launch} {G : jG} {X : jX} {Q : State → Prop} {n hg nc : Nat} {ret : Option FieldType} {mu : jM} {L : Nat} {xs : Nat → Int32} {x4 : Int32} {x5 : Int32} {x6 : Int32} {y0 : Int32} (h : jOk l G X cL_law 7 ret RL hg nc) (hsc : jScr G X L xs)
    (k3 : y0 = x5 → ¬ x5 = 0 → J l G X Q 7 1075 [.ref 2000, .ref 0, .ref 58, .ref 93, .int x4, .int x5, .int x6] [] mu n)
    (k6 : y0 = x5 → x5 = 0 → (lg_cmp (Int32.toInt64 (mu 93 (0 : Int32).toNatClampNeg)) (Int32.toInt64 x6)) = 0 → J l G X Q 7 1075 [.ref 2000, .ref 0, .ref 58, .ref 93, .int x4, .int x5, .int x6] [] mu n)
    (k7 : y0 = x5 → x5 = 0 → ¬ (lg_cmp (Int32.toInt64 (mu 93 (0 : Int32).toNatClampNeg)) (Int32.toInt64 x6)) = 0 → J l G X Q 7 1074 [.ref 2000, .ref 0, .ref 58, .ref 93, .int x4, .int x5, .int x6] [.int 0] mu n)
    (k8 : ¬ y0 = x5 → J l G X Q 7 1057 [.ref 2000, .ref 0, .ref 58, .ref 93, .int x4, .int x5, .int x6] [.int 0] mu n) :
    J l G X Q 7 1051 [.ref 2000, .ref 0, .ref 58, .ref 93, .int x4, .int x5, .int x6] [.int y0] mu n := by
  refine J_iload h dL_law_1051 rfl ?_
  refine J_icmp_eq (tgt := 1058) h dL_law_1053 (by decide) (fun q1 => ?_) (fun q1 => ?_)
  · skip
    refine J_iload h dL_law_1058 rfl ?_
    refine J_if_ne (tgt := 1075) h dL_law_1060 (by decide) (fun q2 => ?_) (fun q2 => ?_)
    · skip
      exact k3 q1 q2
    · skip
      refine J_aload_n h dL_law_1063 rfl rfl ?_
      refine J_iconst h dL_law_1064 ci_0 ?_
      refine J_lald h dL_law_1065 rfl (jin (by decide)) ?_
      refine J_iload h dL_law_1066 rfl ?_
      refine J_i2l h dL_law_1068 ?_
      refine J_lcmp h dL_law_1069 ?_
      refine J_if_eq (tgt := 1075) h dL_law_1070 (by decide) (fun q5 => ?_) (fun q5 => ?_)
      · skip
        exact k6 q1 q2 q5
      · skip
        refine J_iconst h dL_law_1073 ci_0 ?_
        exact k7 q1 q2 q5
  · skip
    refine J_iconst h dL_law_1056 ci_0 ?_
    exact k8 q1
theorem rL_law_1119 {l : Launch} {G : jG} {X : jX} {Q : State → Prop} {n hg nc : Nat} {ret : Option FieldType} {mu : jM} {L : Nat} {xs : Nat → Int32} {x4 : Int32} {x5 : Int32} {x6 : Int32} {y0 : Int32} (h : jOk l G X cL_law 7 ret RL hg nc) (hsc : jScr G X L xs)
    (k3 : y0 = x5 → ¬ x5 = 0 → J l G X Q 7 1143 [.ref 2000, .ref 0, .ref 58, .ref 93, .int x4, .int x5, .int x6] [] mu n)
    (k6 : y0 = x5 → x5 = 0 → (lg_cmp (Int32.toInt64 (mu 93 (0 : Int32).toNatClampNeg)) (Int32.toInt64 x6)) = 0 → J l G X Q 7 1143 [.ref 2000, .ref 0, .ref 58, .ref 93, .int x4, .int x5, .int x6] [] mu n)
    (k7 : y0 = x5 → x5 = 0 → ¬ (lg_cmp (Int32.toInt64 (mu 93 (0 : Int32).toNatClampNeg)) (Int32.toInt64 x6)) = 0 → J l G X Q 7 1142 [.ref 2000, .ref 0, .ref 58, .ref 93, .int x4, .int x5, .int x6] [.int 0] mu n)
    (k8 : ¬ y0 = x5 → J l G X Q 7 1125 [.ref 2000, .ref 0, .ref 58, .ref 93, .int x4, .int x5, .int x6] [.int 0] mu n) :
    J l G X Q 7 1119 [.ref 2000, .ref 0, .ref 58, .ref 93, .int x4, .int x5, .int x6] [.int y0] mu n := by
  refine J_iload h dL_law_1119 rfl ?_
  refine J_icmp_eq (tgt := 1126) h dL_law_1121 (by decide) (fun q1 => ?_) (fun q1 => ?_)
  · skip
    refine J_iload h dL_law_1126 rfl ?_
    refine J_if_ne (tgt := 1143) h dL_law_1128 (by decide) (fun q2 => ?_) (fun q2 => ?_)
    · skip
      exact k3 q1 q2
    · skip
      refine J_aload_n h dL_law_1131 rfl rfl ?_
      refine J_iconst h dL_law_1132 ci_0 ?_
      refine J_lald h dL_law_1133 rfl (jin (by decide)) ?_
      refine J_iload h dL_law_1134 rfl ?_
      refine J_i2l h dL_law_1136 ?_
      refine J_lcmp h dL_law_1137 ?_
      refine J_if_eq (tgt := 1143) h dL_law_1138 (by decide) (fun q5 => ?_) (fun q5 => ?_)
      · skip
        exact k6 q1 q2 q5
      · skip
        refine J_iconst h dL_law_1141 ci_0 ?_
        exact k7 q1 q2 q5
  · skip
    refine J_iconst h dL_law_1124 ci_0 ?_
    exact k8 q1
theorem rL_law_1187 {l : Launch} {G : jG} {X : jX} {Q : State → Prop} {n hg nc : Nat} {ret : Option FieldType} {mu : jM} {L : Nat} {xs : Nat → Int32} {x4 : Int32} {x5 : Int32} {x6 : Int32} {y0 : Int32} (h : jOk l G X cL_law 7 ret RL hg nc) (hsc : jScr G X L xs)
    (k3 : y0 = x5 → ¬ x5 = 0 → J l G X Q 7 1211 [.ref 2000, .ref 0, .ref 58, .ref 93, .int x4, .int x5, .int x6] [] mu n)
    (k6 : y0 = x5 → x5 = 0 → (lg_cmp (Int32.toInt64 (mu 93 (0 : Int32).toNatClampNeg)) (Int32.toInt64 x6)) = 0 → J l G X Q 7 1211 [.ref 2000, .ref 0, .ref 58, .ref 93, .int x4, .int x5, .int x6] [] mu n)
    (k7 : y0 = x5 → x5 = 0 → ¬ (lg_cmp (Int32.toInt64 (mu 93 (0 : Int32).toNatClampNeg)) (Int32.toInt64 x6)) = 0 → J l G X Q 7 1210 [.ref 2000, .ref 0, .ref 58, .ref 93, .int x4, .int x5, .int x6] [.int 0] mu n)
    (k8 : ¬ y0 = x5 → J l G X Q 7 1193 [.ref 2000, .ref 0, .ref 58, .ref 93, .int x4, .int x5, .int x6] [.int 0] mu n) :
    J l G X Q 7 1187 [.ref 2000, .ref 0, .ref 58, .ref 93, .int x4, .int x5, .int x6] [.int y0] mu n := by
  refine J_iload h dL_law_1187 rfl ?_
  refine J_icmp_eq (tgt := 1194) h dL_law_1189 (by decide) (fun q1 => ?_) (fun q1 => ?_)
  · skip
    refine J_iload h dL_law_1194 rfl ?_
    refine J_if_ne (tgt := 1211) h dL_law_1196 (by decide) (fun q2 => ?_) (fun q2 => ?_)
    · skip
      exact k3 q1 q2
    · skip
      refine J_aload_n h dL_law_1199 rfl rfl ?_
      refine J_iconst h dL_law_1200 ci_0 ?_
      refine J_lald h dL_law_1201 rfl (jin (by decide)) ?_
      refine J_iload h dL_law_1202 rfl ?_
      refine J_i2l h dL_law_1204 ?_
      refine J_lcmp h dL_law_1205 ?_
      refine J_if_eq (tgt := 1211) h dL_law_1206 (by decide) (fun q5 => ?_) (fun q5 => ?_)
      · skip
        exact k6 q1 q2 q5
      · skip
        refine J_iconst h dL_law_1209 ci_0 ?_
        exact k7 q1 q2 q5
  · skip
    refine J_iconst h dL_law_1192 ci_0 ?_
    exact k8 q1
theorem rL_law_1255 {l : Launch} {G : jG} {X : jX} {Q : State → Prop} {n hg nc : Nat} {ret : Option FieldType} {mu : jM} {L : Nat} {xs : Nat → Int32} {x4 : Int32} {x5 : Int32} {x6 : Int32} {y0 : Int32} (h : jOk l G X cL_law 7 ret RL hg nc) (hsc : jScr G X L xs)
    (k3 : y0 = x5 → ¬ x5 = 0 → J l G X Q 7 1279 [.ref 2000, .ref 0, .ref 58, .ref 93, .int x4, .int x5, .int x6] [] mu n)
    (k6 : y0 = x5 → x5 = 0 → (lg_cmp (Int32.toInt64 (mu 93 (0 : Int32).toNatClampNeg)) (Int32.toInt64 x6)) = 0 → J l G X Q 7 1279 [.ref 2000, .ref 0, .ref 58, .ref 93, .int x4, .int x5, .int x6] [] mu n)
    (k7 : y0 = x5 → x5 = 0 → ¬ (lg_cmp (Int32.toInt64 (mu 93 (0 : Int32).toNatClampNeg)) (Int32.toInt64 x6)) = 0 → J l G X Q 7 1278 [.ref 2000, .ref 0, .ref 58, .ref 93, .int x4, .int x5, .int x6] [.int 0] mu n)
    (k8 : ¬ y0 = x5 → J l G X Q 7 1261 [.ref 2000, .ref 0, .ref 58, .ref 93, .int x4, .int x5, .int x6] [.int 0] mu n) :
    J l G X Q 7 1255 [.ref 2000, .ref 0, .ref 58, .ref 93, .int x4, .int x5, .int x6] [.int y0] mu n := by
  refine J_iload h dL_law_1255 rfl ?_
  refine J_icmp_eq (tgt := 1262) h dL_law_1257 (by decide) (fun q1 => ?_) (fun q1 => ?_)
  · skip
    refine J_iload h dL_law_1262 rfl ?_
    refine J_if_ne (tgt := 1279) h dL_law_1264 (by decide) (fun q2 => ?_) (fun q2 => ?_)
    · skip
      exact k3 q1 q2
    · skip
      refine J_aload_n h dL_law_1267 rfl rfl ?_
      refine J_iconst h dL_law_1268 ci_0 ?_
      refine J_lald h dL_law_1269 rfl (jin (by decide)) ?_
      refine J_iload h dL_law_1270 rfl ?_
      refine J_i2l h dL_law_1272 ?_
      refine J_lcmp h dL_law_1273 ?_
      refine J_if_eq (tgt := 1279) h dL_law_1274 (by decide) (fun q5 => ?_) (fun q5 => ?_)
      · skip
        exact k6 q1 q2 q5
      · skip
        refine J_iconst h dL_law_1277 ci_0 ?_
        exact k7 q1 q2 q5
  · skip
    refine J_iconst h dL_law_1260 ci_0 ?_
    exact k8 q1
theorem rL_law_1311 {l : Launch} {G : jG} {X : jX} {Q : State → Prop} {n hg nc : Nat} {ret : Option FieldType} {mu : jM} {L : Nat} {xs : Nat → Int32} {x4 : Int32} {x5 : Int32} {x6 : Int32} {y0 : Int32} (h : jOk l G X cL_law 7 ret RL hg nc) (hsc : jScr G X L xs)
    (k3 : y0 = x5 → ¬ x5 = 0 → J l G X Q 7 1335 [.ref 2000, .ref 0, .ref 58, .ref 93, .int x4, .int x5, .int x6] [] mu n)
    (k6 : y0 = x5 → x5 = 0 → (lg_cmp (Int32.toInt64 (mu 93 (0 : Int32).toNatClampNeg)) (Int32.toInt64 x6)) = 0 → J l G X Q 7 1335 [.ref 2000, .ref 0, .ref 58, .ref 93, .int x4, .int x5, .int x6] [] mu n)
    (k7 : y0 = x5 → x5 = 0 → ¬ (lg_cmp (Int32.toInt64 (mu 93 (0 : Int32).toNatClampNeg)) (Int32.toInt64 x6)) = 0 → J l G X Q 7 1334 [.ref 2000, .ref 0, .ref 58, .ref 93, .int x4, .int x5, .int x6] [.int 0] mu n)
    (k8 : ¬ y0 = x5 → J l G X Q 7 1317 [.ref 2000, .ref 0, .ref 58, .ref 93, .int x4, .int x5, .int x6] [.int 0] mu n) :
    J l G X Q 7 1311 [.ref 2000, .ref 0, .ref 58, .ref 93, .int x4, .int x5, .int x6] [.int y0] mu n := by
  refine J_iload h dL_law_1311 rfl ?_
  refine J_icmp_eq (tgt := 1318) h dL_law_1313 (by decide) (fun q1 => ?_) (fun q1 => ?_)
  · skip
    refine J_iload h dL_law_1318 rfl ?_
    refine J_if_ne (tgt := 1335) h dL_law_1320 (by decide) (fun q2 => ?_) (fun q2 => ?_)
    · skip
      exact k3 q1 q2
    · skip
      refine J_aload_n h dL_law_1323 rfl rfl ?_
      refine J_iconst h dL_law_1324 ci_0 ?_
      refine J_lald h dL_law_1325 rfl (jin (by decide)) ?_
      refine J_iload h dL_law_1326 rfl ?_
      refine J_i2l h dL_law_1328 ?_
      refine J_lcmp h dL_law_1329 ?_
      refine J_if_eq (tgt := 1335) h dL_law_1330 (by decide) (fun q5 => ?_) (fun q5 => ?_)
      · skip
        exact k6 q1 q2 q5
      · skip
        refine J_iconst h dL_law_1333 ci_0 ?_
        exact k7 q1 q2 q5
  · skip
    refine J_iconst h dL_law_1316 ci_0 ?_
    exact k8 q1
theorem rL_law_245 {l : Launch} {G : jG} {X : jX} {Q : State → Prop} {n hg nc : Nat} {ret : Option FieldType} {mu : jM} {L : Nat} {xs : Nat → Int32} {x4 : Int32} {x5 : Int32} {x6 : Int32} (h : jOk l G X cL_law 7 ret RL hg nc) (hsc : jScr G X L xs)
    (k1 : J l G X Q 7 1338 [.ref 2000, .ref 0, .ref 58, .ref 93, .int x4, .int x5, .int x6] [] mu n) :
    J l G X Q 7 245 [.ref 2000, .ref 0, .ref 58, .ref 93, .int x4, .int x5, .int x6] [] mu n := by
  refine J_goto (tgt := 1338) h dL_law_245 (by decide) ?_
  exact k1
theorem rL_law_349 {l : Launch} {G : jG} {X : jX} {Q : State → Prop} {n hg nc : Nat} {ret : Option FieldType} {mu : jM} {L : Nat} {xs : Nat → Int32} {x4 : Int32} {x5 : Int32} {x6 : Int32} (h : jOk l G X cL_law 7 ret RL hg nc) (hsc : jScr G X L xs)
    (k1 : J l G X Q 7 1338 [.ref 2000, .ref 0, .ref 58, .ref 93, .int x4, .int x5, .int x6] [] mu n) :
    J l G X Q 7 349 [.ref 2000, .ref 0, .ref 58, .ref 93, .int x4, .int x5, .int x6] [] mu n := by
  refine J_goto (tgt := 1338) h dL_law_349 (by decide) ?_
  exact k1
theorem rL_law_405 {l : Launch} {G : jG} {X : jX} {Q : State → Prop} {n hg nc : Nat} {ret : Option FieldType} {mu : jM} {L : Nat} {xs : Nat → Int32} {x4 : Int32} {x5 : Int32} {x6 : Int32} (h : jOk l G X cL_law 7 ret RL hg nc) (hsc : jScr G X L xs)
    (k1 : J l G X Q 7 1338 [.ref 2000, .ref 0, .ref 58, .ref 93, .int x4, .int x5, .int x6] [] mu n) :
    J l G X Q 7 405 [.ref 2000, .ref 0, .ref 58, .ref 93, .int x4, .int x5, .int x6] [] mu n := by
  refine J_goto (tgt := 1338) h dL_law_405 (by decide) ?_
  exact k1
theorem rL_law_618 {l : Launch} {G : jG} {X : jX} {Q : State → Prop} {n hg nc : Nat} {ret : Option FieldType} {mu : jM} {L : Nat} {xs : Nat → Int32} {x4 : Int32} {x5 : Int32} {x6 : Int32} (h : jOk l G X cL_law 7 ret RL hg nc) (hsc : jScr G X L xs)
    (k1 : J l G X Q 7 1338 [.ref 2000, .ref 0, .ref 58, .ref 93, .int x4, .int x5, .int x6] [] mu n) :
    J l G X Q 7 618 [.ref 2000, .ref 0, .ref 58, .ref 93, .int x4, .int x5, .int x6] [] mu n := by
  refine J_goto (tgt := 1338) h dL_law_618 (by decide) ?_
  exact k1
theorem rL_law_686 {l : Launch} {G : jG} {X : jX} {Q : State → Prop} {n hg nc : Nat} {ret : Option FieldType} {mu : jM} {L : Nat} {xs : Nat → Int32} {x4 : Int32} {x5 : Int32} {x6 : Int32} (h : jOk l G X cL_law 7 ret RL hg nc) (hsc : jScr G X L xs)
    (k1 : J l G X Q 7 1338 [.ref 2000, .ref 0, .ref 58, .ref 93, .int x4, .int x5, .int x6] [] mu n) :
    J l G X Q 7 686 [.ref 2000, .ref 0, .ref 58, .ref 93, .int x4, .int x5, .int x6] [] mu n := by
  refine J_goto (tgt := 1338) h dL_law_686 (by decide) ?_
  exact k1
theorem rL_law_827 {l : Launch} {G : jG} {X : jX} {Q : State → Prop} {n hg nc : Nat} {ret : Option FieldType} {mu : jM} {L : Nat} {xs : Nat → Int32} {x4 : Int32} {x5 : Int32} {x6 : Int32} (h : jOk l G X cL_law 7 ret RL hg nc) (hsc : jScr G X L xs)
    (k1 : J l G X Q 7 1338 [.ref 2000, .ref 0, .ref 58, .ref 93, .int x4, .int x5, .int x6] [] mu n) :
    J l G X Q 7 827 [.ref 2000, .ref 0, .ref 58, .ref 93, .int x4, .int x5, .int x6] [] mu n := by
  refine J_goto (tgt := 1338) h dL_law_827 (by decide) ?_
  exact k1
theorem rL_law_883 {l : Launch} {G : jG} {X : jX} {Q : State → Prop} {n hg nc : Nat} {ret : Option FieldType} {mu : jM} {L : Nat} {xs : Nat → Int32} {x4 : Int32} {x5 : Int32} {x6 : Int32} (h : jOk l G X cL_law 7 ret RL hg nc) (hsc : jScr G X L xs)
    (k1 : J l G X Q 7 1338 [.ref 2000, .ref 0, .ref 58, .ref 93, .int x4, .int x5, .int x6] [] mu n) :
    J l G X Q 7 883 [.ref 2000, .ref 0, .ref 58, .ref 93, .int x4, .int x5, .int x6] [] mu n := by
  refine J_goto (tgt := 1338) h dL_law_883 (by decide) ?_
  exact k1
theorem rL_law_963 {l : Launch} {G : jG} {X : jX} {Q : State → Prop} {n hg nc : Nat} {ret : Option FieldType} {mu : jM} {L : Nat} {xs : Nat → Int32} {x4 : Int32} {x5 : Int32} {x6 : Int32} (h : jOk l G X cL_law 7 ret RL hg nc) (hsc : jScr G X L xs)
    (k1 : J l G X Q 7 1338 [.ref 2000, .ref 0, .ref 58, .ref 93, .int x4, .int x5, .int x6] [] mu n) :
    J l G X Q 7 963 [.ref 2000, .ref 0, .ref 58, .ref 93, .int x4, .int x5, .int x6] [] mu n := by
  refine J_goto (tgt := 1338) h dL_law_963 (by decide) ?_
  exact k1
theorem rL_law_1019 {l : Launch} {G : jG} {X : jX} {Q : State → Prop} {n hg nc : Nat} {ret : Option FieldType} {mu : jM} {L : Nat} {xs : Nat → Int32} {x4 : Int32} {x5 : Int32} {x6 : Int32} (h : jOk l G X cL_law 7 ret RL hg nc) (hsc : jScr G X L xs)
    (k1 : J l G X Q 7 1338 [.ref 2000, .ref 0, .ref 58, .ref 93, .int x4, .int x5, .int x6] [] mu n) :
    J l G X Q 7 1019 [.ref 2000, .ref 0, .ref 58, .ref 93, .int x4, .int x5, .int x6] [] mu n := by
  refine J_goto (tgt := 1338) h dL_law_1019 (by decide) ?_
  exact k1
theorem rL_law_1075 {l : Launch} {G : jG} {X : jX} {Q : State → Prop} {n hg nc : Nat} {ret : Option FieldType} {mu : jM} {L : Nat} {xs : Nat → Int32} {x4 : Int32} {x5 : Int32} {x6 : Int32} (h : jOk l G X cL_law 7 ret RL hg nc) (hsc : jScr G X L xs)
    (k1 : J l G X Q 7 1338 [.ref 2000, .ref 0, .ref 58, .ref 93, .int x4, .int x5, .int x6] [] mu n) :
    J l G X Q 7 1075 [.ref 2000, .ref 0, .ref 58, .ref 93, .int x4, .int x5, .int x6] [] mu n := by
  refine J_goto (tgt := 1338) h dL_law_1075 (by decide) ?_
  exact k1
theorem rL_law_1143 {l : Launch} {G : jG} {X : jX} {Q : State → Prop} {n hg nc : Nat} {ret : Option FieldType} {mu : jM} {L : Nat} {xs : Nat → Int32} {x4 : Int32} {x5 : Int32} {x6 : Int32} (h : jOk l G X cL_law 7 ret RL hg nc) (hsc : jScr G X L xs)
    (k1 : J l G X Q 7 1338 [.ref 2000, .ref 0, .ref 58, .ref 93, .int x4, .int x5, .int x6] [] mu n) :
    J l G X Q 7 1143 [.ref 2000, .ref 0, .ref 58, .ref 93, .int x4, .int x5, .int x6] [] mu n := by
  refine J_goto (tgt := 1338) h dL_law_1143 (by decide) ?_
  exact k1
theorem rL_law_1211 {l : Launch} {G : jG} {X : jX} {Q : State → Prop} {n hg nc : Nat} {ret : Option FieldType} {mu : jM} {L : Nat} {xs : Nat → Int32} {x4 : Int32} {x5 : Int32} {x6 : Int32} (h : jOk l G X cL_law 7 ret RL hg nc) (hsc : jScr G X L xs)
    (k1 : J l G X Q 7 1338 [.ref 2000, .ref 0, .ref 58, .ref 93, .int x4, .int x5, .int x6] [] mu n) :
    J l G X Q 7 1211 [.ref 2000, .ref 0, .ref 58, .ref 93, .int x4, .int x5, .int x6] [] mu n := by
  refine J_goto (tgt := 1338) h dL_law_1211 (by decide) ?_
  exact k1
theorem rL_law_1279 {l : Launch} {G : jG} {X : jX} {Q : State → Prop} {n hg nc : Nat} {ret : Option FieldType} {mu : jM} {L : Nat} {xs : Nat → Int32} {x4 : Int32} {x5 : Int32} {x6 : Int32} (h : jOk l G X cL_law 7 ret RL hg nc) (hsc : jScr G X L xs)
    (k1 : J l G X Q 7 1338 [.ref 2000, .ref 0, .ref 58, .ref 93, .int x4, .int x5, .int x6] [] mu n) :
    J l G X Q 7 1279 [.ref 2000, .ref 0, .ref 58, .ref 93, .int x4, .int x5, .int x6] [] mu n := by
  refine J_goto (tgt := 1338) h dL_law_1279 (by decide) ?_
  exact k1
theorem rL_law_1335 {l : Launch} {G : jG} {X : jX} {Q : State → Prop} {n hg nc : Nat} {ret : Option FieldType} {mu : jM} {L : Nat} {xs : Nat → Int32} {x4 : Int32} {x5 : Int32} {x6 : Int32} (h : jOk l G X cL_law 7 ret RL hg nc) (hsc : jScr G X L xs)
    (k1 : J l G X Q 7 1338 [.ref 2000, .ref 0, .ref 58, .ref 93, .int x4, .int x5, .int x6] [] mu n) :
    J l G X Q 7 1335 [.ref 2000, .ref 0, .ref 58, .ref 93, .int x4, .int x5, .int x6] [] mu n := by
  refine J_goto (tgt := 1338) h dL_law_1335 (by decide) ?_
  exact k1
