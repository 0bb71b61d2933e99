/-! ===== printed by wip/whole/make.py: words of the constructors ===== -/
theorem w102 : (Jvm.Cond.methodLink "LockstepNet" (1 : Nat) ({ cls := "java/lang/Object", name := "<init>", desc := "()V" } : Jvm.MethodName)) ∈ jT := jT_in 102 (by decide +kernel) (by decide +kernel)
theorem w103 : (Jvm.Cond.instanceMethod ({ cls := "java/lang/Object", name := "<init>", desc := "()V" } : Jvm.MethodName)) ∈ jT := jT_in 103 (by decide +kernel) (by decide +kernel)
theorem w104 : (Jvm.Cond.code ({ cls := "java/lang/Object", name := "<init>", desc := "()V" } : Jvm.MethodName) object_method_1_code (1 : Nat) (Option.none : Option Jvm.ClassFile.FieldType)) ∈ jT := jT_in 104 (by decide +kernel) (by decide +kernel)
theorem w105 : (Jvm.Cond.classLink "LockstepNet" (7 : Nat) "LockstepNet$Program") ∈ jT := jT_in 105 (by decide +kernel) (by decide +kernel)
theorem w106 : (Jvm.Cond.instantiable "LockstepNet$Program" (5 : Nat)) ∈ jT := jT_in 106 (by decide +kernel) (by decide +kernel)
theorem w107 : (Jvm.Cond.methodLinkNest "LockstepNet" (9 : Nat) ({ cls := "LockstepNet$Program", name := "<init>", desc := "()V" } : Jvm.MethodName) "LockstepNet") ∈ jN := jN_in 107 (by decide +kernel) (by decide +kernel)
theorem w108 : (Jvm.Cond.instanceMethod ({ cls := "LockstepNet$Program", name := "<init>", desc := "()V" } : Jvm.MethodName)) ∈ jT := jT_in 108 (by decide +kernel) (by decide +kernel)
theorem w109 : (Jvm.Cond.code ({ cls := "LockstepNet$Program", name := "<init>", desc := "()V" } : Jvm.MethodName) prog_6_method_1_code (1 : Nat) (Option.none : Option Jvm.ClassFile.FieldType)) ∈ jT := jT_in 109 (by decide +kernel) (by decide +kernel)
theorem w110 : (Jvm.Cond.methodLink "LockstepNet$Program" (3 : Nat) ({ cls := "java/lang/Object", name := "<init>", desc := "()V" } : Jvm.MethodName)) ∈ jT := jT_in 110 (by decide +kernel) (by decide +kernel)
theorem w133 : (Jvm.Cond.arrayClass Jvm.ClassFile.FieldType.int) ∈ jT := jT_in 133 (by decide +kernel) (by decide +kernel)
theorem w134 : (Jvm.Cond.classLink "LockstepNet" (16 : Nat) "LockstepNet$Net") ∈ jT := jT_in 134 (by decide +kernel) (by decide +kernel)
theorem w135 : (Jvm.Cond.instantiable "LockstepNet$Net" (8 : Nat)) ∈ jT := jT_in 135 (by decide +kernel) (by decide +kernel)
theorem w136 : (Jvm.Cond.methodLinkNest "LockstepNet" (18 : Nat) ({ cls := "LockstepNet$Net", name := "<init>", desc := "()V" } : Jvm.MethodName) "LockstepNet") ∈ jN := jN_in 136 (by decide +kernel) (by decide +kernel)
theorem w137 : (Jvm.Cond.instanceMethod ({ cls := "LockstepNet$Net", name := "<init>", desc := "()V" } : Jvm.MethodName)) ∈ jT := jT_in 137 (by decide +kernel) (by decide +kernel)
theorem w138 : (Jvm.Cond.code ({ cls := "LockstepNet$Net", name := "<init>", desc := "()V" } : Jvm.MethodName) prog_4_method_1_code (1 : Nat) (Option.none : Option Jvm.ClassFile.FieldType)) ∈ jT := jT_in 138 (by decide +kernel) (by decide +kernel)
theorem w139 : (Jvm.Cond.methodLink "LockstepNet$Net" (3 : Nat) ({ cls := "java/lang/Object", name := "<init>", desc := "()V" } : Jvm.MethodName)) ∈ jT := jT_in 139 (by decide +kernel) (by decide +kernel)
theorem w180 : (Jvm.Cond.classLink "LockstepNet" (27 : Nat) "LockstepNet$Machine") ∈ jT := jT_in 180 (by decide +kernel) (by decide +kernel)
theorem w181 : (Jvm.Cond.instantiable "LockstepNet$Machine" (9 : Nat)) ∈ jT := jT_in 181 (by decide +kernel) (by decide +kernel)
theorem w182 : (Jvm.Cond.methodLink "LockstepNet" (29 : Nat) ({ cls := "LockstepNet$Machine", name := "<init>", desc := "(LLockstepNet$Program;LLockstepNet$Net;)V" } : Jvm.MethodName)) ∈ jT := jT_in 182 (by decide +kernel) (by decide +kernel)
theorem w183 : (Jvm.Cond.instanceMethod ({ cls := "LockstepNet$Machine", name := "<init>", desc := "(LLockstepNet$Program;LLockstepNet$Net;)V" } : Jvm.MethodName)) ∈ jT := jT_in 183 (by decide +kernel) (by decide +kernel)
theorem w184 : (Jvm.Cond.code ({ cls := "LockstepNet$Machine", name := "<init>", desc := "(LLockstepNet$Program;LLockstepNet$Net;)V" } : Jvm.MethodName) prog_3_method_1_code (3 : Nat) (Option.none : Option Jvm.ClassFile.FieldType)) ∈ jT := jT_in 184 (by decide +kernel) (by decide +kernel)
theorem w185 : (Jvm.Cond.methodLink "LockstepNet$Machine" (3 : Nat) ({ cls := "java/lang/Object", name := "<init>", desc := "()V" } : Jvm.MethodName)) ∈ jT := jT_in 185 (by decide +kernel) (by decide +kernel)
theorem w217 : (Jvm.Cond.classLink "LockstepNet" (36 : Nat) "LockstepNet$Run") ∈ jT := jT_in 217 (by decide +kernel) (by decide +kernel)
theorem w218 : (Jvm.Cond.instantiable "LockstepNet$Run" (16 : Nat)) ∈ jT := jT_in 218 (by decide +kernel) (by decide +kernel)
theorem w219 : (Jvm.Cond.methodLink "LockstepNet" (38 : Nat) ({ cls := "LockstepNet$Run", name := "<init>", desc := "(LLockstepNet$Program;LLockstepNet$Net;)V" } : Jvm.MethodName)) ∈ jT := jT_in 219 (by decide +kernel) (by decide +kernel)
theorem w220 : (Jvm.Cond.instanceMethod ({ cls := "LockstepNet$Run", name := "<init>", desc := "(LLockstepNet$Program;LLockstepNet$Net;)V" } : Jvm.MethodName)) ∈ jT := jT_in 220 (by decide +kernel) (by decide +kernel)
theorem w221 : (Jvm.Cond.code ({ cls := "LockstepNet$Run", name := "<init>", desc := "(LLockstepNet$Program;LLockstepNet$Net;)V" } : Jvm.MethodName) prog_7_method_1_code (3 : Nat) (Option.none : Option Jvm.ClassFile.FieldType)) ∈ jT := jT_in 221 (by decide +kernel) (by decide +kernel)
theorem w222 : (Jvm.Cond.methodLink "LockstepNet$Run" (3 : Nat) ({ cls := "java/lang/Object", name := "<init>", desc := "()V" } : Jvm.MethodName)) ∈ jT := jT_in 222 (by decide +kernel) (by decide +kernel)
theorem w223 : (Jvm.Cond.classLink "LockstepNet$Run" (9 : Nat) "LockstepNet$Post") ∈ jT := jT_in 223 (by decide +kernel) (by decide +kernel)
theorem w224 : (Jvm.Cond.instantiable "LockstepNet$Post" (3 : Nat)) ∈ jT := jT_in 224 (by decide +kernel) (by decide +kernel)
theorem w225 : (Jvm.Cond.methodLinkNest "LockstepNet$Run" (11 : Nat) ({ cls := "LockstepNet$Post", name := "<init>", desc := "()V" } : Jvm.MethodName) "LockstepNet") ∈ jN := jN_in 225 (by decide +kernel) (by decide +kernel)
theorem w226 : (Jvm.Cond.instanceMethod ({ cls := "LockstepNet$Post", name := "<init>", desc := "()V" } : Jvm.MethodName)) ∈ jT := jT_in 226 (by decide +kernel) (by decide +kernel)
theorem w227 : (Jvm.Cond.code ({ cls := "LockstepNet$Post", name := "<init>", desc := "()V" } : Jvm.MethodName) prog_5_method_1_code (1 : Nat) (Option.none : Option Jvm.ClassFile.FieldType)) ∈ jT := jT_in 227 (by decide +kernel) (by decide +kernel)
theorem w228 : (Jvm.Cond.methodLink "LockstepNet$Post" (3 : Nat) ({ cls := "java/lang/Object", name := "<init>", desc := "()V" } : Jvm.MethodName)) ∈ jT := jT_in 228 (by decide +kernel) (by decide +kernel)
theorem w229 : (Jvm.Cond.classLink "LockstepNet$Post" (11 : Nat) "[[I") ∈ jT := jT_in 229 (by decide +kernel) (by decide +kernel)
theorem w245 : (Jvm.Cond.classLink "LockstepNet$Run" (18 : Nat) "LockstepNet$Tree") ∈ jT := jT_in 245 (by decide +kernel) (by decide +kernel)
theorem w246 : (Jvm.Cond.instantiable "LockstepNet$Tree" (3 : Nat)) ∈ jT := jT_in 246 (by decide +kernel) (by decide +kernel)
theorem w247 : (Jvm.Cond.methodLinkNest "LockstepNet$Run" (20 : Nat) ({ cls := "LockstepNet$Tree", name := "<init>", desc := "()V" } : Jvm.MethodName) "LockstepNet") ∈ jN := jN_in 247 (by decide +kernel) (by decide +kernel)
theorem w248 : (Jvm.Cond.instanceMethod ({ cls := "LockstepNet$Tree", name := "<init>", desc := "()V" } : Jvm.MethodName)) ∈ jT := jT_in 248 (by decide +kernel) (by decide +kernel)
theorem w249 : (Jvm.Cond.code ({ cls := "LockstepNet$Tree", name := "<init>", desc := "()V" } : Jvm.MethodName) prog_8_method_1_code (1 : Nat) (Option.none : Option Jvm.ClassFile.FieldType)) ∈ jT := jT_in 249 (by decide +kernel) (by decide +kernel)
theorem w250 : (Jvm.Cond.methodLink "LockstepNet$Tree" (3 : Nat) ({ cls := "java/lang/Object", name := "<init>", desc := "()V" } : Jvm.MethodName)) ∈ jT := jT_in 250 (by decide +kernel) (by decide +kernel)
theorem w265 : (Jvm.Cond.classLink "LockstepNet$Run" (25 : Nat) "LockstepNet$Clusters") ∈ jT := jT_in 265 (by decide +kernel) (by decide +kernel)
theorem w266 : (Jvm.Cond.instantiable "LockstepNet$Clusters" (6 : Nat)) ∈ jT := jT_in 266 (by decide +kernel) (by decide +kernel)
theorem w267 : (Jvm.Cond.methodLinkNest "LockstepNet$Run" (27 : Nat) ({ cls := "LockstepNet$Clusters", name := "<init>", desc := "()V" } : Jvm.MethodName) "LockstepNet") ∈ jN := jN_in 267 (by decide +kernel) (by decide +kernel)
theorem w268 : (Jvm.Cond.instanceMethod ({ cls := "LockstepNet$Clusters", name := "<init>", desc := "()V" } : Jvm.MethodName)) ∈ jT := jT_in 268 (by decide +kernel) (by decide +kernel)
theorem w269 : (Jvm.Cond.code ({ cls := "LockstepNet$Clusters", name := "<init>", desc := "()V" } : Jvm.MethodName) prog_2_method_1_code (1 : Nat) (Option.none : Option Jvm.ClassFile.FieldType)) ∈ jT := jT_in 269 (by decide +kernel) (by decide +kernel)
theorem w270 : (Jvm.Cond.methodLink "LockstepNet$Clusters" (3 : Nat) ({ cls := "java/lang/Object", name := "<init>", desc := "()V" } : Jvm.MethodName)) ∈ jT := jT_in 270 (by decide +kernel) (by decide +kernel)
theorem w271 : (Jvm.Cond.classLink "LockstepNet$Clusters" (18 : Nat) "LockstepNet$Tree") ∈ jT := jT_in 271 (by decide +kernel) (by decide +kernel)
theorem w272 : (Jvm.Cond.methodLinkNest "LockstepNet$Clusters" (20 : Nat) ({ cls := "LockstepNet$Tree", name := "<init>", desc := "()V" } : Jvm.MethodName) "LockstepNet") ∈ jN := jN_in 272 (by decide +kernel) (by decide +kernel)
theorem w300 : (Jvm.Cond.classLink "LockstepNet$Run" (39 : Nat) "[[I") ∈ jT := jT_in 300 (by decide +kernel) (by decide +kernel)
theorem w301 : (Jvm.Cond.classLink "LockstepNet$Run" (73 : Nat) "LockstepNet$Machine") ∈ jT := jT_in 301 (by decide +kernel) (by decide +kernel)
theorem w302 : (Jvm.Cond.methodLink "LockstepNet$Run" (75 : Nat) ({ cls := "LockstepNet$Machine", name := "<init>", desc := "(LLockstepNet$Program;LLockstepNet$Net;)V" } : Jvm.MethodName)) ∈ jT := jT_in 302 (by decide +kernel) (by decide +kernel)
theorem w983 : (Jvm.Cond.methodLink "LockstepNetModel" (1 : Nat) ({ cls := "java/lang/Object", name := "<init>", desc := "()V" } : Jvm.MethodName)) ∈ jT := jT_in 983 (by decide +kernel) (by decide +kernel)
theorem w1117 : (Jvm.Cond.arrayClass Jvm.ClassFile.FieldType.boolean) ∈ jT := jT_in 1117 (by decide +kernel) (by decide +kernel)
theorem nmX0_init : jNm yX0_init 0 := by unfold jNm; decide +kernel
theorem nmX1_init : jNm yX1_init 2 := by unfold jNm; decide +kernel
theorem nmX2_init : jNm yX2_init 0 := by unfold jNm; decide +kernel
theorem nmX3_init : jNm yX3_init 0 := by unfold jNm; decide +kernel
theorem nmX4_init : jNm yX4_init 0 := by unfold jNm; decide +kernel
theorem nmX5_init : jNm yX5_init 2 := by unfold jNm; decide +kernel
theorem nmX6_init : jNm yX6_init 0 := by unfold jNm; decide +kernel
theorem dfX0 : ∀ j, j < 6 → defaultValue (tyX0 j) = vp_V [.int 0, .int 0, .null, .null, .null, .null] j := fun j hj => by
  match j, hj with
  | 0, _ => rfl
  | 1, _ => rfl
  | 2, _ => rfl
  | 3, _ => rfl
  | 4, _ => rfl
  | 5, _ => rfl
  | j + 6, hj => exact absurd hj (by omega)
theorem dfX1 : ∀ j, j < 9 → defaultValue (tyX1 j) = vp_V [.null, .null, .null, .null, .null, .null, .int 0, .int 0, .int 0] j := fun j hj => by
  match j, hj with
  | 0, _ => rfl
  | 1, _ => rfl
  | 2, _ => rfl
  | 3, _ => rfl
  | 4, _ => rfl
  | 5, _ => rfl
  | 6, _ => rfl
  | 7, _ => rfl
  | 8, _ => rfl
  | j + 9, hj => exact absurd hj (by omega)
theorem dfX2 : ∀ j, j < 8 → defaultValue (tyX2 j) = vp_V [.int 0, .int 0, .null, .null, .null, .null, .null, .null] j := fun j hj => by
  match j, hj with
  | 0, _ => rfl
  | 1, _ => rfl
  | 2, _ => rfl
  | 3, _ => rfl
  | 4, _ => rfl
  | 5, _ => rfl
  | 6, _ => rfl
  | 7, _ => rfl
  | j + 8, hj => exact absurd hj (by omega)
theorem dfX3 : ∀ j, j < 3 → defaultValue (tyX3 j) = vp_V [.null, .null, .int 0] j := fun j hj => by
  match j, hj with
  | 0, _ => rfl
  | 1, _ => rfl
  | 2, _ => rfl
  | j + 3, hj => exact absurd hj (by omega)
theorem dfX4 : ∀ j, j < 5 → defaultValue (tyX4 j) = vp_V [.null, .null, .null, .null, .int 0] j := fun j hj => by
  match j, hj with
  | 0, _ => rfl
  | 1, _ => rfl
  | 2, _ => rfl
  | 3, _ => rfl
  | 4, _ => rfl
  | j + 5, hj => exact absurd hj (by omega)
theorem dfX5 : ∀ j, j < 16 → defaultValue (tyX5 j) = vp_V [.null, .null, .null, .null, .null, .null, .null, .null, .int 0, .int 0, .int 0, .int 0, .int 0, .null, .null, .int 0] j := fun j hj => by
  match j, hj with
  | 0, _ => rfl
  | 1, _ => rfl
  | 2, _ => rfl
  | 3, _ => rfl
  | 4, _ => rfl
  | 5, _ => rfl
  | 6, _ => rfl
  | 7, _ => rfl
  | 8, _ => rfl
  | 9, _ => rfl
  | 10, _ => rfl
  | 11, _ => rfl
  | 12, _ => rfl
  | 13, _ => rfl
  | 14, _ => rfl
  | 15, _ => rfl
  | j + 16, hj => exact absurd hj (by omega)
theorem dfX6 : ∀ j, j < 3 → defaultValue (tyX6 j) = vp_V [.null, .null, .null] j := fun j hj => by
  match j, hj with
  | 0, _ => rfl
  | 1, _ => rfl
  | 2, _ => rfl
  | j + 3, hj => exact absurd hj (by omega)
theorem dfX7 : ∀ j, j < 6 → defaultValue (tyX7 j) = vp_V [.null, .null, .null, .null, .null, .int 0] j := fun j hj => by
  match j, hj with
  | 0, _ => rfl
  | 1, _ => rfl
  | 2, _ => rfl
  | 3, _ => rfl
  | 4, _ => rfl
  | 5, _ => rfl
  | j + 6, hj => exact absurd hj (by omega)
theorem dfX8 : ∀ j, j < 44 → defaultValue (tyX8 j) = vp_V [.int 0, .int 0, .int 0, .null, .null, .null, .null, .null, .null, .int 0, .null, .null, .null, .null, .null, .null, .null, .null, .int 0, .int 0, .int 0, .null, .null, .null, .null, .null, .null, .null, .null, .null, .null, .null, .int 0, .null, .null, .null, .null, .null, .int 0, .null, .null, .int 0, .null, .null] j := fun j hj => by
  match j, hj with
  | 0, _ => rfl
  | 1, _ => rfl
  | 2, _ => rfl
  | 3, _ => rfl
  | 4, _ => rfl
  | 5, _ => rfl
  | 6, _ => rfl
  | 7, _ => rfl
  | 8, _ => rfl
  | 9, _ => rfl
  | 10, _ => rfl
  | 11, _ => rfl
  | 12, _ => rfl
  | 13, _ => rfl
  | 14, _ => rfl
  | 15, _ => rfl
  | 16, _ => rfl
  | 17, _ => rfl
  | 18, _ => rfl
  | 19, _ => rfl
  | 20, _ => rfl
  | 21, _ => rfl
  | 22, _ => rfl
  | 23, _ => rfl
  | 24, _ => rfl
  | 25, _ => rfl
  | 26, _ => rfl
  | 27, _ => rfl
  | 28, _ => rfl
  | 29, _ => rfl
  | 30, _ => rfl
  | 31, _ => rfl
  | 32, _ => rfl
  | 33, _ => rfl
  | 34, _ => rfl
  | 35, _ => rfl
  | 36, _ => rfl
  | 37, _ => rfl
  | 38, _ => rfl
  | 39, _ => rfl
  | 40, _ => rfl
  | 41, _ => rfl
  | 42, _ => rfl
  | 43, _ => rfl
  | j + 44, hj => exact absurd hj (by omega)
