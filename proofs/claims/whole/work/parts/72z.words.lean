/-! ===== printed by wip/whole/wraps.py: words ===== -/
theorem w75 : (Jvm.Cond.initialized "LockstepNetLaw") ∈ jT := jT_in 75 (by decide +kernel) (by decide +kernel)
theorem w410 : (Jvm.Cond.methodLink "LockstepNetLaw" (89 : Nat) ({ cls := "LockstepNetLaw", name := "net", desc := "(LLockstepNet;I)I" } : Jvm.MethodName)) ∈ jT := jT_in 410 (by decide +kernel) (by decide +kernel)
theorem w411 : (Jvm.Cond.static ({ cls := "LockstepNetLaw", name := "net", desc := "(LLockstepNet;I)I" } : Jvm.MethodName)) ∈ jT := jT_in 411 (by decide +kernel) (by decide +kernel)
theorem w412 : (Jvm.Cond.codeWith ({ cls := "LockstepNetLaw", name := "net", desc := "(LLockstepNet;I)I" } : Jvm.MethodName) method_3_code (3 : Nat) (Option.some Jvm.ClassFile.FieldType.int) [((0 : Nat), (5 : Nat), (8 : Nat), (13 : Nat)), ((0 : Nat), (5 : Nat), (11 : Nat), (15 : Nat))]) ∈ jT := jT_in 412 (by decide +kernel) (by decide +kernel)
theorem w413 : (Jvm.Cond.classLink "LockstepNetLaw" (13 : Nat) "java/lang/IllegalArgumentException") ∈ jT := jT_in 413 (by decide +kernel) (by decide +kernel)
theorem w414 : (Jvm.Cond.classLink "LockstepNetLaw" (15 : Nat) "java/lang/IllegalStateException") ∈ jT := jT_in 414 (by decide +kernel) (by decide +kernel)
theorem w415 : (Jvm.Cond.methodLink "LockstepNetLaw" (7 : Nat) ({ cls := "LockstepNet", name := "net", desc := "(I)V" } : Jvm.MethodName)) ∈ jT := jT_in 415 (by decide +kernel) (by decide +kernel)
theorem w416 : (Jvm.Cond.instanceMethod ({ cls := "LockstepNet", name := "net", desc := "(I)V" } : Jvm.MethodName)) ∈ jT := jT_in 416 (by decide +kernel) (by decide +kernel)
theorem w417 : (Jvm.Cond.selects "LockstepNet" ({ cls := "LockstepNet", name := "net", desc := "(I)V" } : Jvm.MethodName) ({ cls := "LockstepNet", name := "net", desc := "(I)V" } : Jvm.MethodName)) ∈ jT := jT_in 417 (by decide +kernel) (by decide +kernel)
theorem w418 : (Jvm.Cond.code ({ cls := "LockstepNet", name := "net", desc := "(I)V" } : Jvm.MethodName) prog_1_method_2_code (2 : Nat) (Option.none : Option Jvm.ClassFile.FieldType)) ∈ jT := jT_in 418 (by decide +kernel) (by decide +kernel)
theorem w421 : (Jvm.Cond.castable "java/lang/IllegalArgumentException" "java/lang/IllegalArgumentException") ∈ jN := jN_in 421 (by decide +kernel) (by decide +kernel)
theorem w495 : (Jvm.Cond.castable "java/lang/IllegalStateException" "java/lang/IllegalStateException") ∈ jN := jN_in 495 (by decide +kernel) (by decide +kernel)
theorem w525 : (Jvm.Cond.methodLink "LockstepNetLaw" (99 : Nat) ({ cls := "LockstepNetLaw", name := "link", desc := "(LLockstepNet;II[J)I" } : Jvm.MethodName)) ∈ jT := jT_in 525 (by decide +kernel) (by decide +kernel)
theorem w526 : (Jvm.Cond.static ({ cls := "LockstepNetLaw", name := "link", desc := "(LLockstepNet;II[J)I" } : Jvm.MethodName)) ∈ jT := jT_in 526 (by decide +kernel) (by decide +kernel)
theorem w527 : (Jvm.Cond.codeWith ({ cls := "LockstepNetLaw", name := "link", desc := "(LLockstepNet;II[J)I" } : Jvm.MethodName) method_4_code (5 : Nat) (Option.some Jvm.ClassFile.FieldType.int) [((0 : Nat), (10 : Nat), (13 : Nat), (21 : Nat)), ((0 : Nat), (10 : Nat), (17 : Nat), (13 : Nat)), ((0 : Nat), (10 : Nat), (21 : Nat), (15 : Nat)), ((0 : Nat), (10 : Nat), (25 : Nat), (23 : Nat))]) ∈ jT := jT_in 527 (by decide +kernel) (by decide +kernel)
theorem w528 : (Jvm.Cond.classLink "LockstepNetLaw" (21 : Nat) "java/util/NoSuchElementException") ∈ jT := jT_in 528 (by decide +kernel) (by decide +kernel)
theorem w529 : (Jvm.Cond.classLink "LockstepNetLaw" (23 : Nat) "java/lang/UnsupportedOperationException") ∈ jT := jT_in 529 (by decide +kernel) (by decide +kernel)
theorem w530 : (Jvm.Cond.methodLink "LockstepNetLaw" (17 : Nat) ({ cls := "LockstepNet", name := "link", desc := "(II)I" } : Jvm.MethodName)) ∈ jT := jT_in 530 (by decide +kernel) (by decide +kernel)
theorem w531 : (Jvm.Cond.instanceMethod ({ cls := "LockstepNet", name := "link", desc := "(II)I" } : Jvm.MethodName)) ∈ jT := jT_in 531 (by decide +kernel) (by decide +kernel)
theorem w532 : (Jvm.Cond.selects "LockstepNet" ({ cls := "LockstepNet", name := "link", desc := "(II)I" } : Jvm.MethodName) ({ cls := "LockstepNet", name := "link", desc := "(II)I" } : Jvm.MethodName)) ∈ jT := jT_in 532 (by decide +kernel) (by decide +kernel)
theorem w533 : (Jvm.Cond.code ({ cls := "LockstepNet", name := "link", desc := "(II)I" } : Jvm.MethodName) prog_1_method_3_code (3 : Nat) (Option.some Jvm.ClassFile.FieldType.int)) ∈ jT := jT_in 533 (by decide +kernel) (by decide +kernel)
theorem w540 : (Jvm.Cond.castable "java/util/NoSuchElementException" "java/util/NoSuchElementException") ∈ jN := jN_in 540 (by decide +kernel) (by decide +kernel)
theorem w562 : (Jvm.Cond.castable "java/lang/UnsupportedOperationException" "java/lang/UnsupportedOperationException") ∈ jN := jN_in 562 (by decide +kernel) (by decide +kernel)
theorem w584 : (Jvm.Cond.methodLink "LockstepNetLaw" (103 : Nat) ({ cls := "LockstepNetLaw", name := "word", desc := "(LLockstepNet;IIIII[J)I" } : Jvm.MethodName)) ∈ jT := jT_in 584 (by decide +kernel) (by decide +kernel)
theorem w585 : (Jvm.Cond.static ({ cls := "LockstepNetLaw", name := "word", desc := "(LLockstepNet;IIIII[J)I" } : Jvm.MethodName)) ∈ jT := jT_in 585 (by decide +kernel) (by decide +kernel)
theorem w586 : (Jvm.Cond.codeWith ({ cls := "LockstepNetLaw", name := "word", desc := "(LLockstepNet;IIIII[J)I" } : Jvm.MethodName) method_5_code (8 : Nat) (Option.some Jvm.ClassFile.FieldType.int) [((0 : Nat), (16 : Nat), (19 : Nat), (13 : Nat)), ((0 : Nat), (16 : Nat), (23 : Nat), (15 : Nat)), ((0 : Nat), (16 : Nat), (27 : Nat), (23 : Nat))]) ∈ jT := jT_in 586 (by decide +kernel) (by decide +kernel)
theorem w587 : (Jvm.Cond.methodLink "LockstepNetLaw" (25 : Nat) ({ cls := "LockstepNet", name := "word", desc := "(IIIII)I" } : Jvm.MethodName)) ∈ jT := jT_in 587 (by decide +kernel) (by decide +kernel)
theorem w588 : (Jvm.Cond.instanceMethod ({ cls := "LockstepNet", name := "word", desc := "(IIIII)I" } : Jvm.MethodName)) ∈ jT := jT_in 588 (by decide +kernel) (by decide +kernel)
theorem w589 : (Jvm.Cond.selects "LockstepNet" ({ cls := "LockstepNet", name := "word", desc := "(IIIII)I" } : Jvm.MethodName) ({ cls := "LockstepNet", name := "word", desc := "(IIIII)I" } : Jvm.MethodName)) ∈ jT := jT_in 589 (by decide +kernel) (by decide +kernel)
theorem w590 : (Jvm.Cond.code ({ cls := "LockstepNet", name := "word", desc := "(IIIII)I" } : Jvm.MethodName) prog_1_method_4_code (6 : Nat) (Option.some Jvm.ClassFile.FieldType.int)) ∈ jT := jT_in 590 (by decide +kernel) (by decide +kernel)
theorem w597 : (Jvm.Cond.methodLink "LockstepNetLaw" (107 : Nat) ({ cls := "LockstepNetLaw", name := "builtin", desc := "(LLockstepNet;I[J)I" } : Jvm.MethodName)) ∈ jT := jT_in 597 (by decide +kernel) (by decide +kernel)
theorem w598 : (Jvm.Cond.static ({ cls := "LockstepNetLaw", name := "builtin", desc := "(LLockstepNet;I[J)I" } : Jvm.MethodName)) ∈ jT := jT_in 598 (by decide +kernel) (by decide +kernel)
theorem w599 : (Jvm.Cond.codeWith ({ cls := "LockstepNetLaw", name := "builtin", desc := "(LLockstepNet;I[J)I" } : Jvm.MethodName) method_6_code (4 : Nat) (Option.some Jvm.ClassFile.FieldType.int) [((0 : Nat), (9 : Nat), (12 : Nat), (13 : Nat)), ((0 : Nat), (9 : Nat), (15 : Nat), (15 : Nat))]) ∈ jT := jT_in 599 (by decide +kernel) (by decide +kernel)
theorem w600 : (Jvm.Cond.methodLink "LockstepNetLaw" (29 : Nat) ({ cls := "LockstepNet", name := "builtin", desc := "(I)I" } : Jvm.MethodName)) ∈ jT := jT_in 600 (by decide +kernel) (by decide +kernel)
theorem w601 : (Jvm.Cond.instanceMethod ({ cls := "LockstepNet", name := "builtin", desc := "(I)I" } : Jvm.MethodName)) ∈ jT := jT_in 601 (by decide +kernel) (by decide +kernel)
theorem w602 : (Jvm.Cond.selects "LockstepNet" ({ cls := "LockstepNet", name := "builtin", desc := "(I)I" } : Jvm.MethodName) ({ cls := "LockstepNet", name := "builtin", desc := "(I)I" } : Jvm.MethodName)) ∈ jT := jT_in 602 (by decide +kernel) (by decide +kernel)
theorem w603 : (Jvm.Cond.code ({ cls := "LockstepNet", name := "builtin", desc := "(I)I" } : Jvm.MethodName) prog_1_method_5_code (2 : Nat) (Option.some Jvm.ClassFile.FieldType.int)) ∈ jT := jT_in 603 (by decide +kernel) (by decide +kernel)
theorem w622 : (Jvm.Cond.methodLink "LockstepNetLaw" (111 : Nat) ({ cls := "LockstepNetLaw", name := "cutAt", desc := "(LLockstepNet;I)I" } : Jvm.MethodName)) ∈ jT := jT_in 622 (by decide +kernel) (by decide +kernel)
theorem w623 : (Jvm.Cond.static ({ cls := "LockstepNetLaw", name := "cutAt", desc := "(LLockstepNet;I)I" } : Jvm.MethodName)) ∈ jT := jT_in 623 (by decide +kernel) (by decide +kernel)
theorem w624 : (Jvm.Cond.codeWith ({ cls := "LockstepNetLaw", name := "cutAt", desc := "(LLockstepNet;I)I" } : Jvm.MethodName) method_7_code (3 : Nat) (Option.some Jvm.ClassFile.FieldType.int) [((0 : Nat), (5 : Nat), (8 : Nat), (13 : Nat)), ((0 : Nat), (5 : Nat), (11 : Nat), (15 : Nat))]) ∈ jT := jT_in 624 (by decide +kernel) (by decide +kernel)
theorem w625 : (Jvm.Cond.methodLink "LockstepNetLaw" (33 : Nat) ({ cls := "LockstepNet", name := "cutAt", desc := "(I)V" } : Jvm.MethodName)) ∈ jT := jT_in 625 (by decide +kernel) (by decide +kernel)
theorem w626 : (Jvm.Cond.instanceMethod ({ cls := "LockstepNet", name := "cutAt", desc := "(I)V" } : Jvm.MethodName)) ∈ jT := jT_in 626 (by decide +kernel) (by decide +kernel)
theorem w627 : (Jvm.Cond.selects "LockstepNet" ({ cls := "LockstepNet", name := "cutAt", desc := "(I)V" } : Jvm.MethodName) ({ cls := "LockstepNet", name := "cutAt", desc := "(I)V" } : Jvm.MethodName)) ∈ jT := jT_in 627 (by decide +kernel) (by decide +kernel)
theorem w628 : (Jvm.Cond.code ({ cls := "LockstepNet", name := "cutAt", desc := "(I)V" } : Jvm.MethodName) prog_1_method_6_code (2 : Nat) (Option.none : Option Jvm.ClassFile.FieldType)) ∈ jT := jT_in 628 (by decide +kernel) (by decide +kernel)
theorem w630 : (Jvm.Cond.methodLink "LockstepNetLaw" (118 : Nat) ({ cls := "LockstepNetLaw", name := "input", desc := "(LLockstepNet;III)I" } : Jvm.MethodName)) ∈ jT := jT_in 630 (by decide +kernel) (by decide +kernel)
theorem w631 : (Jvm.Cond.static ({ cls := "LockstepNetLaw", name := "input", desc := "(LLockstepNet;III)I" } : Jvm.MethodName)) ∈ jT := jT_in 631 (by decide +kernel) (by decide +kernel)
theorem w632 : (Jvm.Cond.codeWith ({ cls := "LockstepNetLaw", name := "input", desc := "(LLockstepNet;III)I" } : Jvm.MethodName) method_8_code (5 : Nat) (Option.some Jvm.ClassFile.FieldType.int) [((0 : Nat), (7 : Nat), (10 : Nat), (21 : Nat)), ((0 : Nat), (7 : Nat), (14 : Nat), (40 : Nat)), ((0 : Nat), (7 : Nat), (18 : Nat), (15 : Nat))]) ∈ jT := jT_in 632 (by decide +kernel) (by decide +kernel)
theorem w633 : (Jvm.Cond.classLink "LockstepNetLaw" (40 : Nat) "java/lang/IndexOutOfBoundsException") ∈ jT := jT_in 633 (by decide +kernel) (by decide +kernel)
theorem w634 : (Jvm.Cond.methodLink "LockstepNetLaw" (36 : Nat) ({ cls := "LockstepNet", name := "input", desc := "(III)V" } : Jvm.MethodName)) ∈ jT := jT_in 634 (by decide +kernel) (by decide +kernel)
theorem w635 : (Jvm.Cond.instanceMethod ({ cls := "LockstepNet", name := "input", desc := "(III)V" } : Jvm.MethodName)) ∈ jT := jT_in 635 (by decide +kernel) (by decide +kernel)
theorem w636 : (Jvm.Cond.selects "LockstepNet" ({ cls := "LockstepNet", name := "input", desc := "(III)V" } : Jvm.MethodName) ({ cls := "LockstepNet", name := "input", desc := "(III)V" } : Jvm.MethodName)) ∈ jT := jT_in 636 (by decide +kernel) (by decide +kernel)
theorem w637 : (Jvm.Cond.code ({ cls := "LockstepNet", name := "input", desc := "(III)V" } : Jvm.MethodName) prog_1_method_8_code (4 : Nat) (Option.none : Option Jvm.ClassFile.FieldType)) ∈ jT := jT_in 637 (by decide +kernel) (by decide +kernel)
theorem w643 : (Jvm.Cond.castable "java/lang/IndexOutOfBoundsException" "java/lang/IndexOutOfBoundsException") ∈ jN := jN_in 643 (by decide +kernel) (by decide +kernel)
theorem w657 : (Jvm.Cond.methodLink "LockstepNetLaw" (122 : Nat) ({ cls := "LockstepNetLaw", name := "lockstep", desc := "(LLockstepNet;I)I" } : Jvm.MethodName)) ∈ jT := jT_in 657 (by decide +kernel) (by decide +kernel)
theorem w658 : (Jvm.Cond.static ({ cls := "LockstepNetLaw", name := "lockstep", desc := "(LLockstepNet;I)I" } : Jvm.MethodName)) ∈ jT := jT_in 658 (by decide +kernel) (by decide +kernel)
theorem w659 : (Jvm.Cond.codeWith ({ cls := "LockstepNetLaw", name := "lockstep", desc := "(LLockstepNet;I)I" } : Jvm.MethodName) method_9_code (3 : Nat) (Option.some Jvm.ClassFile.FieldType.int) [((0 : Nat), (5 : Nat), (8 : Nat), (13 : Nat)), ((0 : Nat), (5 : Nat), (11 : Nat), (15 : Nat))]) ∈ jT := jT_in 659 (by decide +kernel) (by decide +kernel)
theorem w660 : (Jvm.Cond.methodLink "LockstepNetLaw" (42 : Nat) ({ cls := "LockstepNet", name := "lockstep", desc := "(I)V" } : Jvm.MethodName)) ∈ jT := jT_in 660 (by decide +kernel) (by decide +kernel)
theorem w661 : (Jvm.Cond.instanceMethod ({ cls := "LockstepNet", name := "lockstep", desc := "(I)V" } : Jvm.MethodName)) ∈ jT := jT_in 661 (by decide +kernel) (by decide +kernel)
theorem w662 : (Jvm.Cond.selects "LockstepNet" ({ cls := "LockstepNet", name := "lockstep", desc := "(I)V" } : Jvm.MethodName) ({ cls := "LockstepNet", name := "lockstep", desc := "(I)V" } : Jvm.MethodName)) ∈ jT := jT_in 662 (by decide +kernel) (by decide +kernel)
theorem w663 : (Jvm.Cond.code ({ cls := "LockstepNet", name := "lockstep", desc := "(I)V" } : Jvm.MethodName) prog_1_method_9_code (4 : Nat) (Option.none : Option Jvm.ClassFile.FieldType)) ∈ jT := jT_in 663 (by decide +kernel) (by decide +kernel)
theorem w710 : (Jvm.Cond.methodLink "LockstepNetLaw" (125 : Nat) ({ cls := "LockstepNetLaw", name := "plain", desc := "(LLockstepNet;II[J)I" } : Jvm.MethodName)) ∈ jT := jT_in 710 (by decide +kernel) (by decide +kernel)
theorem w711 : (Jvm.Cond.static ({ cls := "LockstepNetLaw", name := "plain", desc := "(LLockstepNet;II[J)I" } : Jvm.MethodName)) ∈ jT := jT_in 711 (by decide +kernel) (by decide +kernel)
theorem w712 : (Jvm.Cond.codeWith ({ cls := "LockstepNetLaw", name := "plain", desc := "(LLockstepNet;II[J)I" } : Jvm.MethodName) method_10_code (5 : Nat) (Option.some Jvm.ClassFile.FieldType.int) [((0 : Nat), (10 : Nat), (13 : Nat), (21 : Nat)), ((0 : Nat), (10 : Nat), (17 : Nat), (40 : Nat))]) ∈ jT := jT_in 712 (by decide +kernel) (by decide +kernel)
theorem w713 : (Jvm.Cond.methodLink "LockstepNetLaw" (45 : Nat) ({ cls := "LockstepNet", name := "plain", desc := "(II)I" } : Jvm.MethodName)) ∈ jT := jT_in 713 (by decide +kernel) (by decide +kernel)
theorem w714 : (Jvm.Cond.instanceMethod ({ cls := "LockstepNet", name := "plain", desc := "(II)I" } : Jvm.MethodName)) ∈ jT := jT_in 714 (by decide +kernel) (by decide +kernel)
theorem w715 : (Jvm.Cond.selects "LockstepNet" ({ cls := "LockstepNet", name := "plain", desc := "(II)I" } : Jvm.MethodName) ({ cls := "LockstepNet", name := "plain", desc := "(II)I" } : Jvm.MethodName)) ∈ jT := jT_in 715 (by decide +kernel) (by decide +kernel)
theorem w716 : (Jvm.Cond.code ({ cls := "LockstepNet", name := "plain", desc := "(II)I" } : Jvm.MethodName) prog_1_method_10_code (3 : Nat) (Option.some Jvm.ClassFile.FieldType.int)) ∈ jT := jT_in 716 (by decide +kernel) (by decide +kernel)
theorem w717 : (Jvm.Cond.methodLink "LockstepNetLaw" (128 : Nat) ({ cls := "LockstepNetLaw", name := "prepare", desc := "(LLockstepNet;II[J)I" } : Jvm.MethodName)) ∈ jT := jT_in 717 (by decide +kernel) (by decide +kernel)
theorem w718 : (Jvm.Cond.static ({ cls := "LockstepNetLaw", name := "prepare", desc := "(LLockstepNet;II[J)I" } : Jvm.MethodName)) ∈ jT := jT_in 718 (by decide +kernel) (by decide +kernel)
theorem w719 : (Jvm.Cond.codeWith ({ cls := "LockstepNetLaw", name := "prepare", desc := "(LLockstepNet;II[J)I" } : Jvm.MethodName) method_11_code (5 : Nat) (Option.some Jvm.ClassFile.FieldType.int) [((0 : Nat), (10 : Nat), (13 : Nat), (13 : Nat)), ((0 : Nat), (10 : Nat), (17 : Nat), (15 : Nat))]) ∈ jT := jT_in 719 (by decide +kernel) (by decide +kernel)
theorem w720 : (Jvm.Cond.methodLink "LockstepNetLaw" (48 : Nat) ({ cls := "LockstepNet", name := "prepare", desc := "(II)I" } : Jvm.MethodName)) ∈ jT := jT_in 720 (by decide +kernel) (by decide +kernel)
theorem w721 : (Jvm.Cond.instanceMethod ({ cls := "LockstepNet", name := "prepare", desc := "(II)I" } : Jvm.MethodName)) ∈ jT := jT_in 721 (by decide +kernel) (by decide +kernel)
theorem w722 : (Jvm.Cond.selects "LockstepNet" ({ cls := "LockstepNet", name := "prepare", desc := "(II)I" } : Jvm.MethodName) ({ cls := "LockstepNet", name := "prepare", desc := "(II)I" } : Jvm.MethodName)) ∈ jT := jT_in 722 (by decide +kernel) (by decide +kernel)
theorem w723 : (Jvm.Cond.code ({ cls := "LockstepNet", name := "prepare", desc := "(II)I" } : Jvm.MethodName) prog_1_method_11_code (3 : Nat) (Option.some Jvm.ClassFile.FieldType.int)) ∈ jT := jT_in 723 (by decide +kernel) (by decide +kernel)
theorem w786 : (Jvm.Cond.methodLink "LockstepNetLaw" (131 : Nat) ({ cls := "LockstepNetLaw", name := "release", desc := "(LLockstepNet;)I" } : Jvm.MethodName)) ∈ jT := jT_in 786 (by decide +kernel) (by decide +kernel)
theorem w787 : (Jvm.Cond.static ({ cls := "LockstepNetLaw", name := "release", desc := "(LLockstepNet;)I" } : Jvm.MethodName)) ∈ jT := jT_in 787 (by decide +kernel) (by decide +kernel)
theorem w788 : (Jvm.Cond.codeWith ({ cls := "LockstepNetLaw", name := "release", desc := "(LLockstepNet;)I" } : Jvm.MethodName) method_12_code (2 : Nat) (Option.some Jvm.ClassFile.FieldType.int) [((0 : Nat), (4 : Nat), (7 : Nat), (15 : Nat))]) ∈ jT := jT_in 788 (by decide +kernel) (by decide +kernel)
theorem w789 : (Jvm.Cond.methodLink "LockstepNetLaw" (51 : Nat) ({ cls := "LockstepNet", name := "release", desc := "()V" } : Jvm.MethodName)) ∈ jT := jT_in 789 (by decide +kernel) (by decide +kernel)
theorem w790 : (Jvm.Cond.instanceMethod ({ cls := "LockstepNet", name := "release", desc := "()V" } : Jvm.MethodName)) ∈ jT := jT_in 790 (by decide +kernel) (by decide +kernel)
theorem w791 : (Jvm.Cond.selects "LockstepNet" ({ cls := "LockstepNet", name := "release", desc := "()V" } : Jvm.MethodName) ({ cls := "LockstepNet", name := "release", desc := "()V" } : Jvm.MethodName)) ∈ jT := jT_in 791 (by decide +kernel) (by decide +kernel)
theorem w792 : (Jvm.Cond.code ({ cls := "LockstepNet", name := "release", desc := "()V" } : Jvm.MethodName) prog_1_method_12_code (1 : Nat) (Option.none : Option Jvm.ClassFile.FieldType)) ∈ jT := jT_in 792 (by decide +kernel) (by decide +kernel)
theorem w798 : (Jvm.Cond.methodLink "LockstepNetLaw" (135 : Nat) ({ cls := "LockstepNetLaw", name := "stopAt", desc := "(LLockstepNet;I)I" } : Jvm.MethodName)) ∈ jT := jT_in 798 (by decide +kernel) (by decide +kernel)
theorem w799 : (Jvm.Cond.static ({ cls := "LockstepNetLaw", name := "stopAt", desc := "(LLockstepNet;I)I" } : Jvm.MethodName)) ∈ jT := jT_in 799 (by decide +kernel) (by decide +kernel)
theorem w800 : (Jvm.Cond.codeWith ({ cls := "LockstepNetLaw", name := "stopAt", desc := "(LLockstepNet;I)I" } : Jvm.MethodName) method_13_code (3 : Nat) (Option.some Jvm.ClassFile.FieldType.int) [((0 : Nat), (5 : Nat), (8 : Nat), (15 : Nat)), ((0 : Nat), (5 : Nat), (11 : Nat), (13 : Nat))]) ∈ jT := jT_in 800 (by decide +kernel) (by decide +kernel)
theorem w801 : (Jvm.Cond.methodLink "LockstepNetLaw" (54 : Nat) ({ cls := "LockstepNet", name := "stopAt", desc := "(I)V" } : Jvm.MethodName)) ∈ jT := jT_in 801 (by decide +kernel) (by decide +kernel)
theorem w802 : (Jvm.Cond.instanceMethod ({ cls := "LockstepNet", name := "stopAt", desc := "(I)V" } : Jvm.MethodName)) ∈ jT := jT_in 802 (by decide +kernel) (by decide +kernel)
theorem w803 : (Jvm.Cond.selects "LockstepNet" ({ cls := "LockstepNet", name := "stopAt", desc := "(I)V" } : Jvm.MethodName) ({ cls := "LockstepNet", name := "stopAt", desc := "(I)V" } : Jvm.MethodName)) ∈ jT := jT_in 803 (by decide +kernel) (by decide +kernel)
theorem w804 : (Jvm.Cond.code ({ cls := "LockstepNet", name := "stopAt", desc := "(I)V" } : Jvm.MethodName) prog_1_method_13_code (3 : Nat) (Option.none : Option Jvm.ClassFile.FieldType)) ∈ jT := jT_in 804 (by decide +kernel) (by decide +kernel)
theorem w879 : (Jvm.Cond.methodLink "LockstepNetLaw" (142 : Nat) ({ cls := "LockstepNetLaw", name := "letter", desc := "(LLockstepNet;II[J)I" } : Jvm.MethodName)) ∈ jT := jT_in 879 (by decide +kernel) (by decide +kernel)
theorem w880 : (Jvm.Cond.static ({ cls := "LockstepNetLaw", name := "letter", desc := "(LLockstepNet;II[J)I" } : Jvm.MethodName)) ∈ jT := jT_in 880 (by decide +kernel) (by decide +kernel)
theorem w881 : (Jvm.Cond.codeWith ({ cls := "LockstepNetLaw", name := "letter", desc := "(LLockstepNet;II[J)I" } : Jvm.MethodName) method_14_code (5 : Nat) (Option.some Jvm.ClassFile.FieldType.int) [((0 : Nat), (10 : Nat), (13 : Nat), (40 : Nat))]) ∈ jT := jT_in 881 (by decide +kernel) (by decide +kernel)
theorem w882 : (Jvm.Cond.methodLink "LockstepNetLaw" (57 : Nat) ({ cls := "LockstepNet", name := "letter", desc := "(II)I" } : Jvm.MethodName)) ∈ jT := jT_in 882 (by decide +kernel) (by decide +kernel)
theorem w883 : (Jvm.Cond.instanceMethod ({ cls := "LockstepNet", name := "letter", desc := "(II)I" } : Jvm.MethodName)) ∈ jT := jT_in 883 (by decide +kernel) (by decide +kernel)
theorem w884 : (Jvm.Cond.selects "LockstepNet" ({ cls := "LockstepNet", name := "letter", desc := "(II)I" } : Jvm.MethodName) ({ cls := "LockstepNet", name := "letter", desc := "(II)I" } : Jvm.MethodName)) ∈ jT := jT_in 884 (by decide +kernel) (by decide +kernel)
theorem w885 : (Jvm.Cond.code ({ cls := "LockstepNet", name := "letter", desc := "(II)I" } : Jvm.MethodName) prog_1_method_15_code (3 : Nat) (Option.some Jvm.ClassFile.FieldType.int)) ∈ jT := jT_in 885 (by decide +kernel) (by decide +kernel)
theorem w892 : (Jvm.Cond.methodLink "LockstepNetLaw" (145 : Nat) ({ cls := "LockstepNetLaw", name := "deliver", desc := "(LLockstepNet;I[J)I" } : Jvm.MethodName)) ∈ jT := jT_in 892 (by decide +kernel) (by decide +kernel)
theorem w893 : (Jvm.Cond.static ({ cls := "LockstepNetLaw", name := "deliver", desc := "(LLockstepNet;I[J)I" } : Jvm.MethodName)) ∈ jT := jT_in 893 (by decide +kernel) (by decide +kernel)
theorem w894 : (Jvm.Cond.codeWith ({ cls := "LockstepNetLaw", name := "deliver", desc := "(LLockstepNet;I[J)I" } : Jvm.MethodName) method_15_code (4 : Nat) (Option.some Jvm.ClassFile.FieldType.int) [((0 : Nat), (9 : Nat), (12 : Nat), (40 : Nat))]) ∈ jT := jT_in 894 (by decide +kernel) (by decide +kernel)
theorem w895 : (Jvm.Cond.methodLink "LockstepNetLaw" (60 : Nat) ({ cls := "LockstepNet", name := "deliver", desc := "(I)I" } : Jvm.MethodName)) ∈ jT := jT_in 895 (by decide +kernel) (by decide +kernel)
theorem w896 : (Jvm.Cond.instanceMethod ({ cls := "LockstepNet", name := "deliver", desc := "(I)I" } : Jvm.MethodName)) ∈ jT := jT_in 896 (by decide +kernel) (by decide +kernel)
theorem w897 : (Jvm.Cond.selects "LockstepNet" ({ cls := "LockstepNet", name := "deliver", desc := "(I)I" } : Jvm.MethodName) ({ cls := "LockstepNet", name := "deliver", desc := "(I)I" } : Jvm.MethodName)) ∈ jT := jT_in 897 (by decide +kernel) (by decide +kernel)
theorem w898 : (Jvm.Cond.code ({ cls := "LockstepNet", name := "deliver", desc := "(I)I" } : Jvm.MethodName) prog_1_method_16_code (2 : Nat) (Option.some Jvm.ClassFile.FieldType.int)) ∈ jT := jT_in 898 (by decide +kernel) (by decide +kernel)
theorem w910 : (Jvm.Cond.methodLink "LockstepNetLaw" (148 : Nat) ({ cls := "LockstepNetLaw", name := "deliverAll", desc := "(LLockstepNet;III[J)I" } : Jvm.MethodName)) ∈ jT := jT_in 910 (by decide +kernel) (by decide +kernel)
theorem w911 : (Jvm.Cond.static ({ cls := "LockstepNetLaw", name := "deliverAll", desc := "(LLockstepNet;III[J)I" } : Jvm.MethodName)) ∈ jT := jT_in 911 (by decide +kernel) (by decide +kernel)
theorem w912 : (Jvm.Cond.codeWith ({ cls := "LockstepNetLaw", name := "deliverAll", desc := "(LLockstepNet;III[J)I" } : Jvm.MethodName) method_16_code (6 : Nat) (Option.some Jvm.ClassFile.FieldType.int) [((0 : Nat), (12 : Nat), (15 : Nat), (13 : Nat)), ((0 : Nat), (12 : Nat), (19 : Nat), (15 : Nat))]) ∈ jT := jT_in 912 (by decide +kernel) (by decide +kernel)
theorem w913 : (Jvm.Cond.methodLink "LockstepNetLaw" (63 : Nat) ({ cls := "LockstepNet", name := "deliverAll", desc := "(III)I" } : Jvm.MethodName)) ∈ jT := jT_in 913 (by decide +kernel) (by decide +kernel)
theorem w914 : (Jvm.Cond.instanceMethod ({ cls := "LockstepNet", name := "deliverAll", desc := "(III)I" } : Jvm.MethodName)) ∈ jT := jT_in 914 (by decide +kernel) (by decide +kernel)
theorem w915 : (Jvm.Cond.selects "LockstepNet" ({ cls := "LockstepNet", name := "deliverAll", desc := "(III)I" } : Jvm.MethodName) ({ cls := "LockstepNet", name := "deliverAll", desc := "(III)I" } : Jvm.MethodName)) ∈ jT := jT_in 915 (by decide +kernel) (by decide +kernel)
theorem w916 : (Jvm.Cond.code ({ cls := "LockstepNet", name := "deliverAll", desc := "(III)I" } : Jvm.MethodName) prog_1_method_17_code (7 : Nat) (Option.some Jvm.ClassFile.FieldType.int)) ∈ jT := jT_in 916 (by decide +kernel) (by decide +kernel)
theorem w919 : (Jvm.Cond.methodLink "LockstepNetLaw" (152 : Nat) ({ cls := "LockstepNetLaw", name := "switchTo", desc := "(LLockstepNet;I[J)I" } : Jvm.MethodName)) ∈ jT := jT_in 919 (by decide +kernel) (by decide +kernel)
theorem w920 : (Jvm.Cond.static ({ cls := "LockstepNetLaw", name := "switchTo", desc := "(LLockstepNet;I[J)I" } : Jvm.MethodName)) ∈ jT := jT_in 920 (by decide +kernel) (by decide +kernel)
theorem w921 : (Jvm.Cond.codeWith ({ cls := "LockstepNetLaw", name := "switchTo", desc := "(LLockstepNet;I[J)I" } : Jvm.MethodName) method_17_code (4 : Nat) (Option.some Jvm.ClassFile.FieldType.int) [((0 : Nat), (9 : Nat), (12 : Nat), (13 : Nat)), ((0 : Nat), (9 : Nat), (15 : Nat), (15 : Nat)), ((0 : Nat), (9 : Nat), (18 : Nat), (23 : Nat))]) ∈ jT := jT_in 921 (by decide +kernel) (by decide +kernel)
theorem w922 : (Jvm.Cond.methodLink "LockstepNetLaw" (67 : Nat) ({ cls := "LockstepNet", name := "switchTo", desc := "(I)I" } : Jvm.MethodName)) ∈ jT := jT_in 922 (by decide +kernel) (by decide +kernel)
theorem w923 : (Jvm.Cond.instanceMethod ({ cls := "LockstepNet", name := "switchTo", desc := "(I)I" } : Jvm.MethodName)) ∈ jT := jT_in 923 (by decide +kernel) (by decide +kernel)
theorem w924 : (Jvm.Cond.selects "LockstepNet" ({ cls := "LockstepNet", name := "switchTo", desc := "(I)I" } : Jvm.MethodName) ({ cls := "LockstepNet", name := "switchTo", desc := "(I)I" } : Jvm.MethodName)) ∈ jT := jT_in 924 (by decide +kernel) (by decide +kernel)
theorem w925 : (Jvm.Cond.code ({ cls := "LockstepNet", name := "switchTo", desc := "(I)I" } : Jvm.MethodName) prog_1_method_18_code (2 : Nat) (Option.some Jvm.ClassFile.FieldType.int)) ∈ jT := jT_in 925 (by decide +kernel) (by decide +kernel)
theorem w936 : (Jvm.Cond.methodLink "LockstepNetLaw" (155 : Nat) ({ cls := "LockstepNetLaw", name := "roundOf", desc := "(LLockstepNet;I[J)I" } : Jvm.MethodName)) ∈ jT := jT_in 936 (by decide +kernel) (by decide +kernel)
theorem w937 : (Jvm.Cond.static ({ cls := "LockstepNetLaw", name := "roundOf", desc := "(LLockstepNet;I[J)I" } : Jvm.MethodName)) ∈ jT := jT_in 937 (by decide +kernel) (by decide +kernel)
theorem w938 : (Jvm.Cond.codeWith ({ cls := "LockstepNetLaw", name := "roundOf", desc := "(LLockstepNet;I[J)I" } : Jvm.MethodName) method_18_code (4 : Nat) (Option.some Jvm.ClassFile.FieldType.int) [((0 : Nat), (9 : Nat), (12 : Nat), (21 : Nat)), ((0 : Nat), (9 : Nat), (15 : Nat), (15 : Nat))]) ∈ jT := jT_in 938 (by decide +kernel) (by decide +kernel)
theorem w939 : (Jvm.Cond.methodLink "LockstepNetLaw" (70 : Nat) ({ cls := "LockstepNet", name := "roundOf", desc := "(I)I" } : Jvm.MethodName)) ∈ jT := jT_in 939 (by decide +kernel) (by decide +kernel)
theorem w940 : (Jvm.Cond.instanceMethod ({ cls := "LockstepNet", name := "roundOf", desc := "(I)I" } : Jvm.MethodName)) ∈ jT := jT_in 940 (by decide +kernel) (by decide +kernel)
theorem w941 : (Jvm.Cond.selects "LockstepNet" ({ cls := "LockstepNet", name := "roundOf", desc := "(I)I" } : Jvm.MethodName) ({ cls := "LockstepNet", name := "roundOf", desc := "(I)I" } : Jvm.MethodName)) ∈ jT := jT_in 941 (by decide +kernel) (by decide +kernel)
theorem w942 : (Jvm.Cond.code ({ cls := "LockstepNet", name := "roundOf", desc := "(I)I" } : Jvm.MethodName) prog_1_method_19_code (2 : Nat) (Option.some Jvm.ClassFile.FieldType.int)) ∈ jT := jT_in 942 (by decide +kernel) (by decide +kernel)
theorem w943 : (Jvm.Cond.methodLink "LockstepNetLaw" (158 : Nat) ({ cls := "LockstepNetLaw", name := "value", desc := "(LLockstepNet;II[J)I" } : Jvm.MethodName)) ∈ jT := jT_in 943 (by decide +kernel) (by decide +kernel)
theorem w944 : (Jvm.Cond.static ({ cls := "LockstepNetLaw", name := "value", desc := "(LLockstepNet;II[J)I" } : Jvm.MethodName)) ∈ jT := jT_in 944 (by decide +kernel) (by decide +kernel)
theorem w945 : (Jvm.Cond.codeWith ({ cls := "LockstepNetLaw", name := "value", desc := "(LLockstepNet;II[J)I" } : Jvm.MethodName) method_19_code (5 : Nat) (Option.some Jvm.ClassFile.FieldType.int) [((0 : Nat), (10 : Nat), (13 : Nat), (21 : Nat)), ((0 : Nat), (10 : Nat), (17 : Nat), (40 : Nat)), ((0 : Nat), (10 : Nat), (21 : Nat), (15 : Nat))]) ∈ jT := jT_in 945 (by decide +kernel) (by decide +kernel)
theorem w946 : (Jvm.Cond.methodLink "LockstepNetLaw" (73 : Nat) ({ cls := "LockstepNet", name := "value", desc := "(II)I" } : Jvm.MethodName)) ∈ jT := jT_in 946 (by decide +kernel) (by decide +kernel)
theorem w947 : (Jvm.Cond.instanceMethod ({ cls := "LockstepNet", name := "value", desc := "(II)I" } : Jvm.MethodName)) ∈ jT := jT_in 947 (by decide +kernel) (by decide +kernel)
theorem w948 : (Jvm.Cond.selects "LockstepNet" ({ cls := "LockstepNet", name := "value", desc := "(II)I" } : Jvm.MethodName) ({ cls := "LockstepNet", name := "value", desc := "(II)I" } : Jvm.MethodName)) ∈ jT := jT_in 948 (by decide +kernel) (by decide +kernel)
theorem w949 : (Jvm.Cond.code ({ cls := "LockstepNet", name := "value", desc := "(II)I" } : Jvm.MethodName) prog_1_method_20_code (3 : Nat) (Option.some Jvm.ClassFile.FieldType.int)) ∈ jT := jT_in 949 (by decide +kernel) (by decide +kernel)
theorem w950 : (Jvm.Cond.methodLink "LockstepNetLaw" (161 : Nat) ({ cls := "LockstepNetLaw", name := "place", desc := "(LLockstepNet;II[J)I" } : Jvm.MethodName)) ∈ jT := jT_in 950 (by decide +kernel) (by decide +kernel)
theorem w951 : (Jvm.Cond.static ({ cls := "LockstepNetLaw", name := "place", desc := "(LLockstepNet;II[J)I" } : Jvm.MethodName)) ∈ jT := jT_in 951 (by decide +kernel) (by decide +kernel)
theorem w952 : (Jvm.Cond.codeWith ({ cls := "LockstepNetLaw", name := "place", desc := "(LLockstepNet;II[J)I" } : Jvm.MethodName) method_20_code (5 : Nat) (Option.some Jvm.ClassFile.FieldType.int) [((0 : Nat), (10 : Nat), (13 : Nat), (21 : Nat)), ((0 : Nat), (10 : Nat), (17 : Nat), (40 : Nat)), ((0 : Nat), (10 : Nat), (21 : Nat), (15 : Nat))]) ∈ jT := jT_in 952 (by decide +kernel) (by decide +kernel)
theorem w953 : (Jvm.Cond.methodLink "LockstepNetLaw" (76 : Nat) ({ cls := "LockstepNet", name := "place", desc := "(II)I" } : Jvm.MethodName)) ∈ jT := jT_in 953 (by decide +kernel) (by decide +kernel)
theorem w954 : (Jvm.Cond.instanceMethod ({ cls := "LockstepNet", name := "place", desc := "(II)I" } : Jvm.MethodName)) ∈ jT := jT_in 954 (by decide +kernel) (by decide +kernel)
theorem w955 : (Jvm.Cond.selects "LockstepNet" ({ cls := "LockstepNet", name := "place", desc := "(II)I" } : Jvm.MethodName) ({ cls := "LockstepNet", name := "place", desc := "(II)I" } : Jvm.MethodName)) ∈ jT := jT_in 955 (by decide +kernel) (by decide +kernel)
theorem w956 : (Jvm.Cond.code ({ cls := "LockstepNet", name := "place", desc := "(II)I" } : Jvm.MethodName) prog_1_method_21_code (3 : Nat) (Option.some Jvm.ClassFile.FieldType.int)) ∈ jT := jT_in 956 (by decide +kernel) (by decide +kernel)
theorem w958 : (Jvm.Cond.methodLink "LockstepNetLaw" (164 : Nat) ({ cls := "LockstepNetLaw", name := "chosen", desc := "(LLockstepNet;II[J)I" } : Jvm.MethodName)) ∈ jT := jT_in 958 (by decide +kernel) (by decide +kernel)
theorem w959 : (Jvm.Cond.static ({ cls := "LockstepNetLaw", name := "chosen", desc := "(LLockstepNet;II[J)I" } : Jvm.MethodName)) ∈ jT := jT_in 959 (by decide +kernel) (by decide +kernel)
theorem w960 : (Jvm.Cond.codeWith ({ cls := "LockstepNetLaw", name := "chosen", desc := "(LLockstepNet;II[J)I" } : Jvm.MethodName) method_21_code (5 : Nat) (Option.some Jvm.ClassFile.FieldType.int) [((0 : Nat), (10 : Nat), (13 : Nat), (40 : Nat))]) ∈ jT := jT_in 960 (by decide +kernel) (by decide +kernel)
theorem w961 : (Jvm.Cond.methodLink "LockstepNetLaw" (79 : Nat) ({ cls := "LockstepNet", name := "chosen", desc := "(II)I" } : Jvm.MethodName)) ∈ jT := jT_in 961 (by decide +kernel) (by decide +kernel)
theorem w962 : (Jvm.Cond.instanceMethod ({ cls := "LockstepNet", name := "chosen", desc := "(II)I" } : Jvm.MethodName)) ∈ jT := jT_in 962 (by decide +kernel) (by decide +kernel)
theorem w963 : (Jvm.Cond.selects "LockstepNet" ({ cls := "LockstepNet", name := "chosen", desc := "(II)I" } : Jvm.MethodName) ({ cls := "LockstepNet", name := "chosen", desc := "(II)I" } : Jvm.MethodName)) ∈ jT := jT_in 963 (by decide +kernel) (by decide +kernel)
theorem w964 : (Jvm.Cond.code ({ cls := "LockstepNet", name := "chosen", desc := "(II)I" } : Jvm.MethodName) prog_1_method_22_code (3 : Nat) (Option.some Jvm.ClassFile.FieldType.int)) ∈ jT := jT_in 964 (by decide +kernel) (by decide +kernel)
theorem w970 : (Jvm.Cond.methodLink "LockstepNetLaw" (167 : Nat) ({ cls := "LockstepNetLaw", name := "count", desc := "(LLockstepNet;I[J)I" } : Jvm.MethodName)) ∈ jT := jT_in 970 (by decide +kernel) (by decide +kernel)
theorem w971 : (Jvm.Cond.static ({ cls := "LockstepNetLaw", name := "count", desc := "(LLockstepNet;I[J)I" } : Jvm.MethodName)) ∈ jT := jT_in 971 (by decide +kernel) (by decide +kernel)
theorem w972 : (Jvm.Cond.codeWith ({ cls := "LockstepNetLaw", name := "count", desc := "(LLockstepNet;I[J)I" } : Jvm.MethodName) method_22_code (4 : Nat) (Option.some Jvm.ClassFile.FieldType.int) [((0 : Nat), (9 : Nat), (12 : Nat), (40 : Nat))]) ∈ jT := jT_in 972 (by decide +kernel) (by decide +kernel)
theorem w973 : (Jvm.Cond.methodLink "LockstepNetLaw" (82 : Nat) ({ cls := "LockstepNet", name := "count", desc := "(I)I" } : Jvm.MethodName)) ∈ jT := jT_in 973 (by decide +kernel) (by decide +kernel)
theorem w974 : (Jvm.Cond.instanceMethod ({ cls := "LockstepNet", name := "count", desc := "(I)I" } : Jvm.MethodName)) ∈ jT := jT_in 974 (by decide +kernel) (by decide +kernel)
theorem w975 : (Jvm.Cond.selects "LockstepNet" ({ cls := "LockstepNet", name := "count", desc := "(I)I" } : Jvm.MethodName) ({ cls := "LockstepNet", name := "count", desc := "(I)I" } : Jvm.MethodName)) ∈ jT := jT_in 975 (by decide +kernel) (by decide +kernel)
theorem w976 : (Jvm.Cond.code ({ cls := "LockstepNet", name := "count", desc := "(I)I" } : Jvm.MethodName) prog_1_method_23_code (2 : Nat) (Option.some Jvm.ClassFile.FieldType.int)) ∈ jT := jT_in 976 (by decide +kernel) (by decide +kernel)
theorem nmL_builtin : jNm yL_builtin 3 := by unfold jNm; decide +kernel
theorem nmL_chosen : jNm yL_chosen 4 := by unfold jNm; decide +kernel
theorem nmL_count : jNm yL_count 3 := by unfold jNm; decide +kernel
theorem nmL_cutAt : jNm yL_cutAt 2 := by unfold jNm; decide +kernel
theorem nmL_deliver : jNm yL_deliver 3 := by unfold jNm; decide +kernel
theorem nmL_deliverAll : jNm yL_deliverAll 5 := by unfold jNm; decide +kernel
theorem nmL_input : jNm yL_input 4 := by unfold jNm; decide +kernel
theorem nmL_letter : jNm yL_letter 4 := by unfold jNm; decide +kernel
theorem nmL_link : jNm yL_link 4 := by unfold jNm; decide +kernel
theorem nmL_lockstep : jNm yL_lockstep 2 := by unfold jNm; decide +kernel
theorem nmL_net : jNm yL_net 2 := by unfold jNm; decide +kernel
theorem nmL_place : jNm yL_place 4 := by unfold jNm; decide +kernel
theorem nmL_plain : jNm yL_plain 4 := by unfold jNm; decide +kernel
theorem nmL_prepare : jNm yL_prepare 4 := by unfold jNm; decide +kernel
theorem nmL_release : jNm yL_release 1 := by unfold jNm; decide +kernel
theorem nmL_roundOf : jNm yL_roundOf 3 := by unfold jNm; decide +kernel
theorem nmL_stopAt : jNm yL_stopAt 2 := by unfold jNm; decide +kernel
theorem nmL_switchTo : jNm yL_switchTo 3 := by unfold jNm; decide +kernel
theorem nmL_value : jNm yL_value 4 := by unfold jNm; decide +kernel
theorem nmL_word : jNm yL_word 7 := by unfold jNm; decide +kernel
theorem nmX7_builtin : jNm yX7_builtin 1 := by unfold jNm; decide +kernel
theorem nmX7_chosen : jNm yX7_chosen 2 := by unfold jNm; decide +kernel
theorem nmX7_count : jNm yX7_count 1 := by unfold jNm; decide +kernel
theorem nmX7_cutAt : jNm yX7_cutAt 1 := by unfold jNm; decide +kernel
theorem nmX7_deliver : jNm yX7_deliver 1 := by unfold jNm; decide +kernel
theorem nmX7_deliverAll : jNm yX7_deliverAll 3 := by unfold jNm; decide +kernel
theorem nmX7_input : jNm yX7_input 3 := by unfold jNm; decide +kernel
theorem nmX7_letter : jNm yX7_letter 2 := by unfold jNm; decide +kernel
theorem nmX7_link : jNm yX7_link 2 := by unfold jNm; decide +kernel
theorem nmX7_lockstep : jNm yX7_lockstep 1 := by unfold jNm; decide +kernel
theorem nmX7_net : jNm yX7_net 1 := by unfold jNm; decide +kernel
theorem nmX7_place : jNm yX7_place 2 := by unfold jNm; decide +kernel
theorem nmX7_plain : jNm yX7_plain 2 := by unfold jNm; decide +kernel
theorem nmX7_prepare : jNm yX7_prepare 2 := by unfold jNm; decide +kernel
theorem nmX7_release : jNm yX7_release 0 := by unfold jNm; decide +kernel
theorem nmX7_roundOf : jNm yX7_roundOf 1 := by unfold jNm; decide +kernel
theorem nmX7_stopAt : jNm yX7_stopAt 1 := by unfold jNm; decide +kernel
theorem nmX7_switchTo : jNm yX7_switchTo 1 := by unfold jNm; decide +kernel
theorem nmX7_value : jNm yX7_value 2 := by unfold jNm; decide +kernel
theorem nmX7_word : jNm yX7_word 5 := by unfold jNm; decide +kernel
