/-! ===== printed by wip/whole/gen.py: words by their places, classes, names, constants ===== -/
theorem jc0 : jC 0 RX0 TX0 6 := ⟨rfl, by decide +kernel⟩
theorem jc1 : jC 1 RX1 TX1 9 := ⟨rfl, by decide +kernel⟩
theorem jc2 : jC 2 RX2 TX2 8 := ⟨rfl, by decide +kernel⟩
theorem jc3 : jC 3 RX3 TX3 3 := ⟨rfl, by decide +kernel⟩
theorem jc4 : jC 4 RX4 TX4 5 := ⟨rfl, by decide +kernel⟩
theorem jc5 : jC 5 RX5 TX5 16 := ⟨rfl, by decide +kernel⟩
theorem jc6 : jC 6 RX6 TX6 3 := ⟨rfl, by decide +kernel⟩
theorem jc7 : jC 7 RX7 TX7 6 := ⟨rfl, by decide +kernel⟩
theorem jc8 : jC 8 RX8 TX8 44 := ⟨rfl, by decide +kernel⟩
theorem jfitZ (v : Int32) (h : narrow .boolean (.int v) = .int v) : fits .boolean (.int v) = true := by
  rw [← h]
  exact fits_narrow_bool v
theorem w0 : (Jvm.Cond.selects "LockstepNet$Program" ({ cls := "LockstepNet$Program", name := "hasWrongParts", desc := "(I)Z" } : Jvm.MethodName) ({ cls := "LockstepNet$Program", name := "hasWrongParts", desc := "(I)Z" } : Jvm.MethodName)) ∈ jT := jT_in 0 (by decide +kernel) (by decide +kernel)
theorem w1 : (Jvm.Cond.selects "LockstepNet$Program" ({ cls := "LockstepNet$Program", name := "standsWrong", desc := "(IZ)Z" } : Jvm.MethodName) ({ cls := "LockstepNet$Program", name := "standsWrong", desc := "(IZ)Z" } : Jvm.MethodName)) ∈ jT := jT_in 1 (by decide +kernel) (by decide +kernel)
theorem w2 : (Jvm.Cond.selects "LockstepNet$Program" ({ cls := "LockstepNet$Program", name := "skipsIntoEach", desc := "(I)Z" } : Jvm.MethodName) ({ cls := "LockstepNet$Program", name := "skipsIntoEach", desc := "(I)Z" } : Jvm.MethodName)) ∈ jT := jT_in 2 (by decide +kernel) (by decide +kernel)
theorem w3 : (Jvm.Cond.selects "LockstepNet$Program" ({ cls := "LockstepNet$Program", name := "reachesTooFar", desc := "(II)Z" } : Jvm.MethodName) ({ cls := "LockstepNet$Program", name := "reachesTooFar", desc := "(II)Z" } : Jvm.MethodName)) ∈ jT := jT_in 3 (by decide +kernel) (by decide +kernel)
theorem w5 : (Jvm.Cond.selects "LockstepNet" ({ cls := "LockstepNet", name := "refuseWithRun", desc := "()V" } : Jvm.MethodName) ({ cls := "LockstepNet", name := "refuseWithRun", desc := "()V" } : Jvm.MethodName)) ∈ jT := jT_in 5 (by decide +kernel) (by decide +kernel)
theorem w6 : (Jvm.Cond.selects "LockstepNet" ({ cls := "LockstepNet", name := "needNode", desc := "(I)V" } : Jvm.MethodName) ({ cls := "LockstepNet", name := "needNode", desc := "(I)V" } : Jvm.MethodName)) ∈ jT := jT_in 6 (by decide +kernel) (by decide +kernel)
theorem w7 : (Jvm.Cond.selects "LockstepNet$Net" ({ cls := "LockstepNet$Net", name := "addPort", desc := "(II)V" } : Jvm.MethodName) ({ cls := "LockstepNet$Net", name := "addPort", desc := "(II)V" } : Jvm.MethodName)) ∈ jT := jT_in 7 (by decide +kernel) (by decide +kernel)
theorem w8 : (Jvm.Cond.selects "LockstepNet" ({ cls := "LockstepNet", name := "refuseWrongWord", desc := "()V" } : Jvm.MethodName) ({ cls := "LockstepNet", name := "refuseWrongWord", desc := "()V" } : Jvm.MethodName)) ∈ jT := jT_in 8 (by decide +kernel) (by decide +kernel)
theorem w9 : (Jvm.Cond.selects "LockstepNet$Machine" ({ cls := "LockstepNet$Machine", name := "doWord", desc := "(II)I" } : Jvm.MethodName) ({ cls := "LockstepNet$Machine", name := "doWord", desc := "(II)I" } : Jvm.MethodName)) ∈ jT := jT_in 9 (by decide +kernel) (by decide +kernel)
theorem w10 : (Jvm.Cond.selects "LockstepNet$Machine" ({ cls := "LockstepNet$Machine", name := "received", desc := "(IZ)I" } : Jvm.MethodName) ({ cls := "LockstepNet$Machine", name := "received", desc := "(IZ)I" } : Jvm.MethodName)) ∈ jT := jT_in 10 (by decide +kernel) (by decide +kernel)
theorem w11 : (Jvm.Cond.selects "LockstepNet$Machine" ({ cls := "LockstepNet$Machine", name := "reckoned", desc := "(I)I" } : Jvm.MethodName) ({ cls := "LockstepNet$Machine", name := "reckoned", desc := "(I)I" } : Jvm.MethodName)) ∈ jT := jT_in 11 (by decide +kernel) (by decide +kernel)
theorem w12 : (Jvm.Cond.selects "LockstepNet$Clusters" ({ cls := "LockstepNet$Clusters", name := "number", desc := "(II)V" } : Jvm.MethodName) ({ cls := "LockstepNet$Clusters", name := "number", desc := "(II)V" } : Jvm.MethodName)) ∈ jT := jT_in 12 (by decide +kernel) (by decide +kernel)
theorem w13 : (Jvm.Cond.selects "LockstepNet$Clusters" ({ cls := "LockstepNet$Clusters", name := "choose", desc := "(LLockstepNet$Net;)V" } : Jvm.MethodName) ({ cls := "LockstepNet$Clusters", name := "choose", desc := "(LLockstepNet$Net;)V" } : Jvm.MethodName)) ∈ jT := jT_in 13 (by decide +kernel) (by decide +kernel)
theorem w14 : (Jvm.Cond.selects "LockstepNet" ({ cls := "LockstepNet", name := "needRun", desc := "()V" } : Jvm.MethodName) ({ cls := "LockstepNet", name := "needRun", desc := "()V" } : Jvm.MethodName)) ∈ jT := jT_in 14 (by decide +kernel) (by decide +kernel)
theorem w15 : (Jvm.Cond.selects "LockstepNet$Run" ({ cls := "LockstepNet$Run", name := "wayOutOf", desc := "(I)I" } : Jvm.MethodName) ({ cls := "LockstepNet$Run", name := "wayOutOf", desc := "(I)I" } : Jvm.MethodName)) ∈ jT := jT_in 15 (by decide +kernel) (by decide +kernel)
theorem w16 : (Jvm.Cond.selects "LockstepNet$Run" ({ cls := "LockstepNet$Run", name := "nextDeed", desc := "(II)I" } : Jvm.MethodName) ({ cls := "LockstepNet$Run", name := "nextDeed", desc := "(II)I" } : Jvm.MethodName)) ∈ jT := jT_in 16 (by decide +kernel) (by decide +kernel)
theorem w17 : (Jvm.Cond.selects "LockstepNet$Run" ({ cls := "LockstepNet$Run", name := "nextByNodes", desc := "(I)I" } : Jvm.MethodName) ({ cls := "LockstepNet$Run", name := "nextByNodes", desc := "(I)I" } : Jvm.MethodName)) ∈ jT := jT_in 17 (by decide +kernel) (by decide +kernel)
theorem w18 : (Jvm.Cond.selects "LockstepNet$Run" ({ cls := "LockstepNet$Run", name := "mayAnnounce", desc := "(I)Z" } : Jvm.MethodName) ({ cls := "LockstepNet$Run", name := "mayAnnounce", desc := "(I)Z" } : Jvm.MethodName)) ∈ jT := jT_in 18 (by decide +kernel) (by decide +kernel)
theorem w19 : (Jvm.Cond.selects "LockstepNet$Run" ({ cls := "LockstepNet$Run", name := "heardBy", desc := "(II)I" } : Jvm.MethodName) ({ cls := "LockstepNet$Run", name := "heardBy", desc := "(II)I" } : Jvm.MethodName)) ∈ jT := jT_in 19 (by decide +kernel) (by decide +kernel)
theorem w20 : (Jvm.Cond.selects "LockstepNet$Run" ({ cls := "LockstepNet$Run", name := "nextByTree", desc := "(I)I" } : Jvm.MethodName) ({ cls := "LockstepNet$Run", name := "nextByTree", desc := "(I)I" } : Jvm.MethodName)) ∈ jT := jT_in 20 (by decide +kernel) (by decide +kernel)
theorem w21 : (Jvm.Cond.selects "LockstepNet$Run" ({ cls := "LockstepNet$Run", name := "nextByClusters", desc := "(I)I" } : Jvm.MethodName) ({ cls := "LockstepNet$Run", name := "nextByClusters", desc := "(I)I" } : Jvm.MethodName)) ∈ jT := jT_in 21 (by decide +kernel) (by decide +kernel)
theorem w22 : (Jvm.Cond.selects "LockstepNet$Run" ({ cls := "LockstepNet$Run", name := "sendFor", desc := "(IILLockstepNet$Tree;)V" } : Jvm.MethodName) ({ cls := "LockstepNet$Run", name := "sendFor", desc := "(IILLockstepNet$Tree;)V" } : Jvm.MethodName)) ∈ jT := jT_in 22 (by decide +kernel) (by decide +kernel)
theorem w23 : (Jvm.Cond.selects "LockstepNet$Run" ({ cls := "LockstepNet$Run", name := "sendByPorts", desc := "(III)V" } : Jvm.MethodName) ({ cls := "LockstepNet$Run", name := "sendByPorts", desc := "(III)V" } : Jvm.MethodName)) ∈ jT := jT_in 23 (by decide +kernel) (by decide +kernel)
theorem w24 : (Jvm.Cond.selects "LockstepNet$Run" ({ cls := "LockstepNet$Run", name := "sendByNumbers", desc := "(III)V" } : Jvm.MethodName) ({ cls := "LockstepNet$Run", name := "sendByNumbers", desc := "(III)V" } : Jvm.MethodName)) ∈ jT := jT_in 24 (by decide +kernel) (by decide +kernel)
theorem w25 : (Jvm.Cond.selects "LockstepNet$Run" ({ cls := "LockstepNet$Run", name := "enterNextRound", desc := "(I)V" } : Jvm.MethodName) ({ cls := "LockstepNet$Run", name := "enterNextRound", desc := "(I)V" } : Jvm.MethodName)) ∈ jT := jT_in 25 (by decide +kernel) (by decide +kernel)
theorem w26 : (Jvm.Cond.selects "LockstepNet$Run" ({ cls := "LockstepNet$Run", name := "forgetRound", desc := "(I)V" } : Jvm.MethodName) ({ cls := "LockstepNet$Run", name := "forgetRound", desc := "(I)V" } : Jvm.MethodName)) ∈ jT := jT_in 26 (by decide +kernel) (by decide +kernel)
theorem w27 : (Jvm.Cond.selects "LockstepNet$Run" ({ cls := "LockstepNet$Run", name := "noteWidest", desc := "(I)V" } : Jvm.MethodName) ({ cls := "LockstepNet$Run", name := "noteWidest", desc := "(I)V" } : Jvm.MethodName)) ∈ jT := jT_in 27 (by decide +kernel) (by decide +kernel)
theorem w28 : (Jvm.Cond.selects "LockstepNet" ({ cls := "LockstepNet", name := "needLetter", desc := "(I)V" } : Jvm.MethodName) ({ cls := "LockstepNet", name := "needLetter", desc := "(I)V" } : Jvm.MethodName)) ∈ jT := jT_in 28 (by decide +kernel) (by decide +kernel)
theorem w29 : (Jvm.Cond.selects "LockstepNet$Run" ({ cls := "LockstepNet$Run", name := "greatestRound", desc := "()I" } : Jvm.MethodName) ({ cls := "LockstepNet$Run", name := "greatestRound", desc := "()I" } : Jvm.MethodName)) ∈ jT := jT_in 29 (by decide +kernel) (by decide +kernel)
theorem w30 : (Jvm.Cond.selects "LockstepNet" ({ cls := "LockstepNet", name := "needCluster", desc := "(I)V" } : Jvm.MethodName) ({ cls := "LockstepNet", name := "needCluster", desc := "(I)V" } : Jvm.MethodName)) ∈ jT := jT_in 30 (by decide +kernel) (by decide +kernel)
theorem w31 : (Jvm.Cond.selects "LockstepNetModel" ({ cls := "LockstepNetModel", name := "isNode", desc := "(I)Z" } : Jvm.MethodName) ({ cls := "LockstepNetModel", name := "isNode", desc := "(I)Z" } : Jvm.MethodName)) ∈ jT := jT_in 31 (by decide +kernel) (by decide +kernel)
theorem w32 : (Jvm.Cond.selects "LockstepNetModel" ({ cls := "LockstepNetModel", name := "linkOf", desc := "(II)I" } : Jvm.MethodName) ({ cls := "LockstepNetModel", name := "linkOf", desc := "(II)I" } : Jvm.MethodName)) ∈ jT := jT_in 32 (by decide +kernel) (by decide +kernel)
theorem w33 : (Jvm.Cond.selects "LockstepNetModel" ({ cls := "LockstepNetModel", name := "addPort", desc := "(II)V" } : Jvm.MethodName) ({ cls := "LockstepNetModel", name := "addPort", desc := "(II)V" } : Jvm.MethodName)) ∈ jT := jT_in 33 (by decide +kernel) (by decide +kernel)
theorem w34 : (Jvm.Cond.selects "LockstepNetModel" ({ cls := "LockstepNetModel", name := "put", desc := "(IIIII)V" } : Jvm.MethodName) ({ cls := "LockstepNetModel", name := "put", desc := "(IIIII)V" } : Jvm.MethodName)) ∈ jT := jT_in 34 (by decide +kernel) (by decide +kernel)
theorem w35 : (Jvm.Cond.selects "LockstepNetModel" ({ cls := "LockstepNetModel", name := "layers", desc := "()V" } : Jvm.MethodName) ({ cls := "LockstepNetModel", name := "layers", desc := "()V" } : Jvm.MethodName)) ∈ jT := jT_in 35 (by decide +kernel) (by decide +kernel)
theorem w36 : (Jvm.Cond.selects "LockstepNetModel" ({ cls := "LockstepNetModel", name := "add", desc := "(IIII)V" } : Jvm.MethodName) ({ cls := "LockstepNetModel", name := "add", desc := "(IIII)V" } : Jvm.MethodName)) ∈ jT := jT_in 36 (by decide +kernel) (by decide +kernel)
theorem w37 : (Jvm.Cond.selects "LockstepNetModel" ({ cls := "LockstepNetModel", name := "leasts", desc := "()V" } : Jvm.MethodName) ({ cls := "LockstepNetModel", name := "leasts", desc := "()V" } : Jvm.MethodName)) ∈ jT := jT_in 37 (by decide +kernel) (by decide +kernel)
theorem w38 : (Jvm.Cond.selects "LockstepNetModel" ({ cls := "LockstepNetModel", name := "cells", desc := "()V" } : Jvm.MethodName) ({ cls := "LockstepNetModel", name := "cells", desc := "()V" } : Jvm.MethodName)) ∈ jT := jT_in 38 (by decide +kernel) (by decide +kernel)
theorem w39 : (Jvm.Cond.selects "LockstepNetModel" ({ cls := "LockstepNetModel", name := "walks", desc := "()V" } : Jvm.MethodName) ({ cls := "LockstepNetModel", name := "walks", desc := "()V" } : Jvm.MethodName)) ∈ jT := jT_in 39 (by decide +kernel) (by decide +kernel)
theorem w40 : (Jvm.Cond.selects "LockstepNetModel" ({ cls := "LockstepNetModel", name := "colours", desc := "()V" } : Jvm.MethodName) ({ cls := "LockstepNetModel", name := "colours", desc := "()V" } : Jvm.MethodName)) ∈ jT := jT_in 40 (by decide +kernel) (by decide +kernel)
theorem w41 : (Jvm.Cond.selects "LockstepNetModel" ({ cls := "LockstepNetModel", name := "wrongWord", desc := "()I" } : Jvm.MethodName) ({ cls := "LockstepNetModel", name := "wrongWord", desc := "()I" } : Jvm.MethodName)) ∈ jT := jT_in 41 (by decide +kernel) (by decide +kernel)
theorem w42 : (Jvm.Cond.selects "LockstepNetModel" ({ cls := "LockstepNetModel", name := "isWrong", desc := "(I)Z" } : Jvm.MethodName) ({ cls := "LockstepNetModel", name := "isWrong", desc := "(I)Z" } : Jvm.MethodName)) ∈ jT := jT_in 42 (by decide +kernel) (by decide +kernel)
theorem w43 : (Jvm.Cond.selects "LockstepNetModel" ({ cls := "LockstepNetModel", name := "lastOfEach", desc := "(I)I" } : Jvm.MethodName) ({ cls := "LockstepNetModel", name := "lastOfEach", desc := "(I)I" } : Jvm.MethodName)) ∈ jT := jT_in 43 (by decide +kernel) (by decide +kernel)
theorem w44 : (Jvm.Cond.selects "LockstepNetModel" ({ cls := "LockstepNetModel", name := "isMidst", desc := "(IJ)Z" } : Jvm.MethodName) ({ cls := "LockstepNetModel", name := "isMidst", desc := "(IJ)Z" } : Jvm.MethodName)) ∈ jT := jT_in 44 (by decide +kernel) (by decide +kernel)
theorem w45 : (Jvm.Cond.selects "LockstepNetModel" ({ cls := "LockstepNetModel", name := "plainRound", desc := "(I)V" } : Jvm.MethodName) ({ cls := "LockstepNetModel", name := "plainRound", desc := "(I)V" } : Jvm.MethodName)) ∈ jT := jT_in 45 (by decide +kernel) (by decide +kernel)
theorem w46 : (Jvm.Cond.selects "LockstepNetModel" ({ cls := "LockstepNetModel", name := "towards", desc := "(II)I" } : Jvm.MethodName) ({ cls := "LockstepNetModel", name := "towards", desc := "(II)I" } : Jvm.MethodName)) ∈ jT := jT_in 46 (by decide +kernel) (by decide +kernel)
theorem w47 : (Jvm.Cond.selects "LockstepNetModel" ({ cls := "LockstepNetModel", name := "doProgram", desc := "(II)V" } : Jvm.MethodName) ({ cls := "LockstepNetModel", name := "doProgram", desc := "(II)V" } : Jvm.MethodName)) ∈ jT := jT_in 47 (by decide +kernel) (by decide +kernel)
theorem w48 : (Jvm.Cond.selects "LockstepNetModel" ({ cls := "LockstepNetModel", name := "doWords", desc := "(IIIII)V" } : Jvm.MethodName) ({ cls := "LockstepNetModel", name := "doWords", desc := "(IIIII)V" } : Jvm.MethodName)) ∈ jT := jT_in 48 (by decide +kernel) (by decide +kernel)
theorem w49 : (Jvm.Cond.selects "LockstepNetModel" ({ cls := "LockstepNetModel", name := "doWord", desc := "(IIII)V" } : Jvm.MethodName) ({ cls := "LockstepNetModel", name := "doWord", desc := "(IIII)V" } : Jvm.MethodName)) ∈ jT := jT_in 49 (by decide +kernel) (by decide +kernel)
theorem w50 : (Jvm.Cond.selects "LockstepNetModel" ({ cls := "LockstepNetModel", name := "otherEnd", desc := "(II)I" } : Jvm.MethodName) ({ cls := "LockstepNetModel", name := "otherEnd", desc := "(II)I" } : Jvm.MethodName)) ∈ jT := jT_in 50 (by decide +kernel) (by decide +kernel)
theorem w51 : (Jvm.Cond.selects "LockstepNetModel" ({ cls := "LockstepNetModel", name := "makeTree", desc := "()Z" } : Jvm.MethodName) ({ cls := "LockstepNetModel", name := "makeTree", desc := "()Z" } : Jvm.MethodName)) ∈ jT := jT_in 51 (by decide +kernel) (by decide +kernel)
theorem w52 : (Jvm.Cond.selects "LockstepNetModel" ({ cls := "LockstepNetModel", name := "makeClusters", desc := "(I)V" } : Jvm.MethodName) ({ cls := "LockstepNetModel", name := "makeClusters", desc := "(I)V" } : Jvm.MethodName)) ∈ jT := jT_in 52 (by decide +kernel) (by decide +kernel)
theorem w53 : (Jvm.Cond.selects "LockstepNetModel" ({ cls := "LockstepNetModel", name := "makeCluster", desc := "(II)V" } : Jvm.MethodName) ({ cls := "LockstepNetModel", name := "makeCluster", desc := "(II)V" } : Jvm.MethodName)) ∈ jT := jT_in 53 (by decide +kernel) (by decide +kernel)
theorem w54 : (Jvm.Cond.selects "LockstepNetModel" ({ cls := "LockstepNetModel", name := "markLayer", desc := "(I)I" } : Jvm.MethodName) ({ cls := "LockstepNetModel", name := "markLayer", desc := "(I)I" } : Jvm.MethodName)) ∈ jT := jT_in 54 (by decide +kernel) (by decide +kernel)
theorem w55 : (Jvm.Cond.selects "LockstepNetModel" ({ cls := "LockstepNetModel", name := "sizeOf", desc := "(I)I" } : Jvm.MethodName) ({ cls := "LockstepNetModel", name := "sizeOf", desc := "(I)I" } : Jvm.MethodName)) ∈ jT := jT_in 55 (by decide +kernel) (by decide +kernel)
theorem w56 : (Jvm.Cond.selects "LockstepNetModel" ({ cls := "LockstepNetModel", name := "chosenLink", desc := "(II)I" } : Jvm.MethodName) ({ cls := "LockstepNetModel", name := "chosenLink", desc := "(II)I" } : Jvm.MethodName)) ∈ jT := jT_in 56 (by decide +kernel) (by decide +kernel)
theorem w57 : (Jvm.Cond.selects "LockstepNetModel" ({ cls := "LockstepNetModel", name := "clearNode", desc := "(I)V" } : Jvm.MethodName) ({ cls := "LockstepNetModel", name := "clearNode", desc := "(I)V" } : Jvm.MethodName)) ∈ jT := jT_in 57 (by decide +kernel) (by decide +kernel)
theorem w58 : (Jvm.Cond.selects "LockstepNetModel" ({ cls := "LockstepNetModel", name := "act", desc := "(I)V" } : Jvm.MethodName) ({ cls := "LockstepNetModel", name := "act", desc := "(I)V" } : Jvm.MethodName)) ∈ jT := jT_in 58 (by decide +kernel) (by decide +kernel)
theorem w59 : (Jvm.Cond.selects "LockstepNetModel" ({ cls := "LockstepNetModel", name := "wayOf", desc := "(I)I" } : Jvm.MethodName) ({ cls := "LockstepNetModel", name := "wayOf", desc := "(I)I" } : Jvm.MethodName)) ∈ jT := jT_in 59 (by decide +kernel) (by decide +kernel)
theorem w60 : (Jvm.Cond.selects "LockstepNetModel" ({ cls := "LockstepNetModel", name := "byNodes", desc := "(I)Z" } : Jvm.MethodName) ({ cls := "LockstepNetModel", name := "byNodes", desc := "(I)Z" } : Jvm.MethodName)) ∈ jT := jT_in 60 (by decide +kernel) (by decide +kernel)
theorem w61 : (Jvm.Cond.selects "LockstepNetModel" ({ cls := "LockstepNetModel", name := "maySay", desc := "(I)Z" } : Jvm.MethodName) ({ cls := "LockstepNetModel", name := "maySay", desc := "(I)Z" } : Jvm.MethodName)) ∈ jT := jT_in 61 (by decide +kernel) (by decide +kernel)
theorem w62 : (Jvm.Cond.selects "LockstepNetModel" ({ cls := "LockstepNetModel", name := "toNeighbours", desc := "(II)V" } : Jvm.MethodName) ({ cls := "LockstepNetModel", name := "toNeighbours", desc := "(II)V" } : Jvm.MethodName)) ∈ jT := jT_in 62 (by decide +kernel) (by decide +kernel)
theorem w63 : (Jvm.Cond.selects "LockstepNetModel" ({ cls := "LockstepNetModel", name := "send", desc := "(IIIII)V" } : Jvm.MethodName) ({ cls := "LockstepNetModel", name := "send", desc := "(IIIII)V" } : Jvm.MethodName)) ∈ jT := jT_in 63 (by decide +kernel) (by decide +kernel)
theorem w64 : (Jvm.Cond.selects "LockstepNetModel" ({ cls := "LockstepNetModel", name := "cameTo", desc := "(II)I" } : Jvm.MethodName) ({ cls := "LockstepNetModel", name := "cameTo", desc := "(II)I" } : Jvm.MethodName)) ∈ jT := jT_in 64 (by decide +kernel) (by decide +kernel)
theorem w65 : (Jvm.Cond.selects "LockstepNetModel" ({ cls := "LockstepNetModel", name := "next", desc := "(I)V" } : Jvm.MethodName) ({ cls := "LockstepNetModel", name := "next", desc := "(I)V" } : Jvm.MethodName)) ∈ jT := jT_in 65 (by decide +kernel) (by decide +kernel)
theorem w66 : (Jvm.Cond.selects "LockstepNetModel" ({ cls := "LockstepNetModel", name := "takeIn", desc := "(II)V" } : Jvm.MethodName) ({ cls := "LockstepNetModel", name := "takeIn", desc := "(II)V" } : Jvm.MethodName)) ∈ jT := jT_in 66 (by decide +kernel) (by decide +kernel)
theorem w67 : (Jvm.Cond.selects "LockstepNetModel" ({ cls := "LockstepNetModel", name := "measure", desc := "()V" } : Jvm.MethodName) ({ cls := "LockstepNetModel", name := "measure", desc := "()V" } : Jvm.MethodName)) ∈ jT := jT_in 67 (by decide +kernel) (by decide +kernel)
theorem w68 : (Jvm.Cond.selects "LockstepNetModel" ({ cls := "LockstepNetModel", name := "byTree", desc := "(I)Z" } : Jvm.MethodName) ({ cls := "LockstepNetModel", name := "byTree", desc := "(I)Z" } : Jvm.MethodName)) ∈ jT := jT_in 68 (by decide +kernel) (by decide +kernel)
theorem w69 : (Jvm.Cond.selects "LockstepNetModel" ({ cls := "LockstepNetModel", name := "childrenOf", desc := "(IZ)I" } : Jvm.MethodName) ({ cls := "LockstepNetModel", name := "childrenOf", desc := "(IZ)I" } : Jvm.MethodName)) ∈ jT := jT_in 69 (by decide +kernel) (by decide +kernel)
theorem w70 : (Jvm.Cond.selects "LockstepNetModel" ({ cls := "LockstepNetModel", name := "toChildren", desc := "(IIZ)V" } : Jvm.MethodName) ({ cls := "LockstepNetModel", name := "toChildren", desc := "(IIZ)V" } : Jvm.MethodName)) ∈ jT := jT_in 70 (by decide +kernel) (by decide +kernel)
theorem w71 : (Jvm.Cond.selects "LockstepNetModel" ({ cls := "LockstepNetModel", name := "byClusters", desc := "(I)Z" } : Jvm.MethodName) ({ cls := "LockstepNetModel", name := "byClusters", desc := "(I)Z" } : Jvm.MethodName)) ∈ jT := jT_in 71 (by decide +kernel) (by decide +kernel)
theorem w72 : (Jvm.Cond.selects "LockstepNetModel" ({ cls := "LockstepNetModel", name := "tell", desc := "(I)V" } : Jvm.MethodName) ({ cls := "LockstepNetModel", name := "tell", desc := "(I)V" } : Jvm.MethodName)) ∈ jT := jT_in 72 (by decide +kernel) (by decide +kernel)
theorem w73 : (Jvm.Cond.selects "LockstepNetModel" ({ cls := "LockstepNetModel", name := "chosenOf", desc := "(I)I" } : Jvm.MethodName) ({ cls := "LockstepNetModel", name := "chosenOf", desc := "(I)I" } : Jvm.MethodName)) ∈ jT := jT_in 73 (by decide +kernel) (by decide +kernel)
theorem w74 : (Jvm.Cond.selects "LockstepNetModel" ({ cls := "LockstepNetModel", name := "bring", desc := "(I)I" } : Jvm.MethodName) ({ cls := "LockstepNetModel", name := "bring", desc := "(I)I" } : Jvm.MethodName)) ∈ jT := jT_in 74 (by decide +kernel) (by decide +kernel)
theorem w76 : (Jvm.Cond.initialized "LockstepNet") ∈ jT := jT_in 76 (by decide +kernel) (by decide +kernel)
theorem w77 : (Jvm.Cond.initialized "LockstepNet$Program") ∈ jT := jT_in 77 (by decide +kernel) (by decide +kernel)
theorem w78 : (Jvm.Cond.initialized "LockstepNet$Net") ∈ jT := jT_in 78 (by decide +kernel) (by decide +kernel)
theorem w79 : (Jvm.Cond.initialized "LockstepNet$Machine") ∈ jT := jT_in 79 (by decide +kernel) (by decide +kernel)
theorem w80 : (Jvm.Cond.initialized "LockstepNet$Run") ∈ jT := jT_in 80 (by decide +kernel) (by decide +kernel)
theorem w81 : (Jvm.Cond.initialized "LockstepNet$Post") ∈ jT := jT_in 81 (by decide +kernel) (by decide +kernel)
theorem w82 : (Jvm.Cond.initialized "LockstepNet$Tree") ∈ jT := jT_in 82 (by decide +kernel) (by decide +kernel)
theorem w83 : (Jvm.Cond.initialized "LockstepNet$Clusters") ∈ jT := jT_in 83 (by decide +kernel) (by decide +kernel)
theorem w84 : (Jvm.Cond.initialized "LockstepNetModel") ∈ jT := jT_in 84 (by decide +kernel) (by decide +kernel)
theorem w90 : (Jvm.Cond.initialized "java/util/Arrays") ∈ jT := jT_in 90 (by decide +kernel) (by decide +kernel)
theorem w91 : (Jvm.Cond.initialized "java/lang/System") ∈ jT := jT_in 91 (by decide +kernel) (by decide +kernel)
theorem w95 : (Jvm.Cond.initialized "java/lang/Integer") ∈ jT := jT_in 95 (by decide +kernel) (by decide +kernel)
theorem w96 : (Jvm.Cond.initialized "java/lang/Math") ∈ jT := jT_in 96 (by decide +kernel) (by decide +kernel)
theorem w111 : (Jvm.Cond.fieldLink "LockstepNet$Program" (11 : Nat) "LockstepNet$Program" "op" "[I") ∈ jT := jT_in 111 (by decide +kernel) (by decide +kernel)
theorem w112 : (Jvm.Cond.fieldLinkNest "LockstepNet$Machine" (82 : Nat) "LockstepNet$Program" "op" "[I" "LockstepNet") ∈ jN := jN_in 112 (by decide +kernel) (by decide +kernel)
theorem w113 : (Jvm.Cond.fieldLink "LockstepNet$Program" (15 : Nat) "LockstepNet$Program" "\x72" "[I") ∈ jT := jT_in 113 (by decide +kernel) (by decide +kernel)
theorem w114 : (Jvm.Cond.fieldLinkNest "LockstepNet$Machine" (91 : Nat) "LockstepNet$Program" "\x72" "[I" "LockstepNet") ∈ jN := jN_in 114 (by decide +kernel) (by decide +kernel)
theorem w115 : (Jvm.Cond.fieldLink "LockstepNet$Program" (18 : Nat) "LockstepNet$Program" "a" "[I") ∈ jT := jT_in 115 (by decide +kernel) (by decide +kernel)
theorem w116 : (Jvm.Cond.fieldLinkNest "LockstepNet$Machine" (88 : Nat) "LockstepNet$Program" "a" "[I" "LockstepNet") ∈ jN := jN_in 116 (by decide +kernel) (by decide +kernel)
theorem w117 : (Jvm.Cond.fieldLink "LockstepNet$Program" (21 : Nat) "LockstepNet$Program" "b" "[I") ∈ jT := jT_in 117 (by decide +kernel) (by decide +kernel)
theorem w118 : (Jvm.Cond.fieldLinkNest "LockstepNet$Machine" (107 : Nat) "LockstepNet$Program" "b" "[I" "LockstepNet") ∈ jN := jN_in 118 (by decide +kernel) (by decide +kernel)
theorem w119 : (Jvm.Cond.fieldLink "LockstepNet$Program" (24 : Nat) "LockstepNet$Program" "size" "I") ∈ jT := jT_in 119 (by decide +kernel) (by decide +kernel)
theorem w120 : (Jvm.Cond.fieldLinkNest "LockstepNet" (98 : Nat) "LockstepNet$Program" "size" "I" "LockstepNet") ∈ jN := jN_in 120 (by decide +kernel) (by decide +kernel)
theorem w121 : (Jvm.Cond.fieldLinkNest "LockstepNet$Machine" (77 : Nat) "LockstepNet$Program" "size" "I" "LockstepNet") ∈ jN := jN_in 121 (by decide +kernel) (by decide +kernel)
theorem w140 : (Jvm.Cond.fieldLink "LockstepNet$Net" (9 : Nat) "LockstepNet$Net" "size" "I") ∈ jT := jT_in 140 (by decide +kernel) (by decide +kernel)
theorem w141 : (Jvm.Cond.fieldLinkNest "LockstepNet$Clusters" (41 : Nat) "LockstepNet$Net" "size" "I" "LockstepNet") ∈ jN := jN_in 141 (by decide +kernel) (by decide +kernel)
theorem w142 : (Jvm.Cond.fieldLinkNest "LockstepNet$Run" (112 : Nat) "LockstepNet$Net" "size" "I" "LockstepNet") ∈ jN := jN_in 142 (by decide +kernel) (by decide +kernel)
theorem w143 : (Jvm.Cond.fieldLinkNest "LockstepNet$Tree" (25 : Nat) "LockstepNet$Net" "size" "I" "LockstepNet") ∈ jN := jN_in 143 (by decide +kernel) (by decide +kernel)
theorem w144 : (Jvm.Cond.fieldLinkNest "LockstepNet" (128 : Nat) "LockstepNet$Net" "size" "I" "LockstepNet") ∈ jN := jN_in 144 (by decide +kernel) (by decide +kernel)
theorem w145 : (Jvm.Cond.fieldLink "LockstepNet$Net" (15 : Nat) "LockstepNet$Net" "links" "I") ∈ jT := jT_in 145 (by decide +kernel) (by decide +kernel)
theorem w146 : (Jvm.Cond.fieldLinkNest "LockstepNet" (85 : Nat) "LockstepNet$Net" "links" "I" "LockstepNet") ∈ jN := jN_in 146 (by decide +kernel) (by decide +kernel)
theorem w147 : (Jvm.Cond.fieldLinkNest "LockstepNet$Clusters" (60 : Nat) "LockstepNet$Net" "links" "I" "LockstepNet") ∈ jN := jN_in 147 (by decide +kernel) (by decide +kernel)
theorem w148 : (Jvm.Cond.fieldLink "LockstepNet$Net" (18 : Nat) "LockstepNet$Net" "oneEnd" "[I") ∈ jT := jT_in 148 (by decide +kernel) (by decide +kernel)
theorem w149 : (Jvm.Cond.fieldLinkNest "LockstepNet$Clusters" (63 : Nat) "LockstepNet$Net" "oneEnd" "[I" "LockstepNet") ∈ jN := jN_in 149 (by decide +kernel) (by decide +kernel)
theorem w150 : (Jvm.Cond.fieldLink "LockstepNet$Net" (22 : Nat) "LockstepNet$Net" "otherEnd" "[I") ∈ jT := jT_in 150 (by decide +kernel) (by decide +kernel)
theorem w151 : (Jvm.Cond.fieldLinkNest "LockstepNet$Clusters" (66 : Nat) "LockstepNet$Net" "otherEnd" "[I" "LockstepNet") ∈ jN := jN_in 151 (by decide +kernel) (by decide +kernel)
theorem w152 : (Jvm.Cond.fieldLink "LockstepNet$Net" (25 : Nat) "LockstepNet$Net" "ports" "[I") ∈ jT := jT_in 152 (by decide +kernel) (by decide +kernel)
theorem w153 : (Jvm.Cond.fieldLinkNest "LockstepNet$Machine" (63 : Nat) "LockstepNet$Net" "ports" "[I" "LockstepNet") ∈ jN := jN_in 153 (by decide +kernel) (by decide +kernel)
theorem w154 : (Jvm.Cond.fieldLinkNest "LockstepNet$Run" (199 : Nat) "LockstepNet$Net" "ports" "[I" "LockstepNet") ∈ jN := jN_in 154 (by decide +kernel) (by decide +kernel)
theorem w155 : (Jvm.Cond.fieldLink "LockstepNet$Net" (28 : Nat) "LockstepNet$Net" "neighbours" "[I") ∈ jT := jT_in 155 (by decide +kernel) (by decide +kernel)
theorem w156 : (Jvm.Cond.fieldLinkNest "LockstepNet$Tree" (40 : Nat) "LockstepNet$Net" "neighbours" "[I" "LockstepNet") ∈ jN := jN_in 156 (by decide +kernel) (by decide +kernel)
theorem w157 : (Jvm.Cond.fieldLinkNest "LockstepNet$Run" (180 : Nat) "LockstepNet$Net" "neighbours" "[I" "LockstepNet") ∈ jN := jN_in 157 (by decide +kernel) (by decide +kernel)
theorem w158 : (Jvm.Cond.fieldLink "LockstepNet$Net" (31 : Nat) "LockstepNet$Net" "behindPort" "[I") ∈ jT := jT_in 158 (by decide +kernel) (by decide +kernel)
theorem w159 : (Jvm.Cond.fieldLinkNest "LockstepNet$Machine" (70 : Nat) "LockstepNet$Net" "behindPort" "[I" "LockstepNet") ∈ jN := jN_in 159 (by decide +kernel) (by decide +kernel)
theorem w160 : (Jvm.Cond.fieldLinkNest "LockstepNet$Run" (202 : Nat) "LockstepNet$Net" "behindPort" "[I" "LockstepNet") ∈ jN := jN_in 160 (by decide +kernel) (by decide +kernel)
theorem w161 : (Jvm.Cond.fieldLink "LockstepNet$Net" (34 : Nat) "LockstepNet$Net" "portTo" "[I") ∈ jT := jT_in 161 (by decide +kernel) (by decide +kernel)
theorem w162 : (Jvm.Cond.fieldLinkNest "LockstepNet$Machine" (54 : Nat) "LockstepNet$Net" "portTo" "[I" "LockstepNet") ∈ jN := jN_in 162 (by decide +kernel) (by decide +kernel)
theorem w186 : (Jvm.Cond.fieldLink "LockstepNet$Machine" (34 : Nat) "LockstepNet$Machine" "program" "LLockstepNet$Program;") ∈ jT := jT_in 186 (by decide +kernel) (by decide +kernel)
theorem w187 : (Jvm.Cond.fieldLink "LockstepNet$Machine" (38 : Nat) "LockstepNet$Machine" "net" "LLockstepNet$Net;") ∈ jT := jT_in 187 (by decide +kernel) (by decide +kernel)
theorem w188 : (Jvm.Cond.fieldLink "LockstepNet$Machine" (9 : Nat) "LockstepNet$Machine" "registers" "[I") ∈ jT := jT_in 188 (by decide +kernel) (by decide +kernel)
theorem w189 : (Jvm.Cond.fieldLinkNest "LockstepNet" (136 : Nat) "LockstepNet$Machine" "registers" "[I" "LockstepNet") ∈ jN := jN_in 189 (by decide +kernel) (by decide +kernel)
theorem w190 : (Jvm.Cond.fieldLink "LockstepNet$Machine" (15 : Nat) "LockstepNet$Machine" "came" "[I") ∈ jT := jT_in 190 (by decide +kernel) (by decide +kernel)
theorem w191 : (Jvm.Cond.fieldLink "LockstepNet$Machine" (18 : Nat) "LockstepNet$Machine" "cameValue" "[I") ∈ jT := jT_in 191 (by decide +kernel) (by decide +kernel)
theorem w192 : (Jvm.Cond.fieldLink "LockstepNet$Machine" (21 : Nat) "LockstepNet$Machine" "goingValue" "[I") ∈ jT := jT_in 192 (by decide +kernel) (by decide +kernel)
theorem w193 : (Jvm.Cond.fieldLinkNest "LockstepNet$Run" (215 : Nat) "LockstepNet$Machine" "goingValue" "[I" "LockstepNet") ∈ jN := jN_in 193 (by decide +kernel) (by decide +kernel)
theorem w194 : (Jvm.Cond.fieldLink "LockstepNet$Machine" (24 : Nat) "LockstepNet$Machine" "going" "I") ∈ jT := jT_in 194 (by decide +kernel) (by decide +kernel)
theorem w195 : (Jvm.Cond.fieldLinkNest "LockstepNet$Run" (218 : Nat) "LockstepNet$Machine" "going" "I" "LockstepNet") ∈ jN := jN_in 195 (by decide +kernel) (by decide +kernel)
theorem w196 : (Jvm.Cond.fieldLink "LockstepNet$Machine" (28 : Nat) "LockstepNet$Machine" "self" "I") ∈ jT := jT_in 196 (by decide +kernel) (by decide +kernel)
theorem w197 : (Jvm.Cond.fieldLink "LockstepNet$Machine" (31 : Nat) "LockstepNet$Machine" "round" "I") ∈ jT := jT_in 197 (by decide +kernel) (by decide +kernel)
theorem w231 : (Jvm.Cond.fieldLink "LockstepNet$Post" (13 : Nat) "LockstepNet$Post" "parts" "[[I") ∈ jT := jT_in 231 (by decide +kernel) (by decide +kernel)
theorem w232 : (Jvm.Cond.fieldLinkNest "LockstepNet$Run" (121 : Nat) "LockstepNet$Post" "parts" "[[I" "LockstepNet") ∈ jN := jN_in 232 (by decide +kernel) (by decide +kernel)
theorem w233 : (Jvm.Cond.fieldLinkNest "LockstepNet" (187 : Nat) "LockstepNet$Post" "parts" "[[I" "LockstepNet") ∈ jN := jN_in 233 (by decide +kernel) (by decide +kernel)
theorem w234 : (Jvm.Cond.fieldLink "LockstepNet$Post" (16 : Nat) "LockstepNet$Post" "sent" "[I") ∈ jT := jT_in 234 (by decide +kernel) (by decide +kernel)
theorem w235 : (Jvm.Cond.fieldLinkNest "LockstepNet" (250 : Nat) "LockstepNet$Post" "sent" "[I" "LockstepNet") ∈ jN := jN_in 235 (by decide +kernel) (by decide +kernel)
theorem w236 : (Jvm.Cond.fieldLink "LockstepNet$Post" (20 : Nat) "LockstepNet$Post" "size" "I") ∈ jT := jT_in 236 (by decide +kernel) (by decide +kernel)
theorem w237 : (Jvm.Cond.fieldLinkNest "LockstepNet" (176 : Nat) "LockstepNet$Post" "size" "I" "LockstepNet") ∈ jN := jN_in 237 (by decide +kernel) (by decide +kernel)
theorem w251 : (Jvm.Cond.fieldLink "LockstepNet$Tree" (9 : Nat) "LockstepNet$Tree" "parent" "[I") ∈ jT := jT_in 251 (by decide +kernel) (by decide +kernel)
theorem w252 : (Jvm.Cond.fieldLinkNest "LockstepNet$Run" (186 : Nat) "LockstepNet$Tree" "parent" "[I" "LockstepNet") ∈ jN := jN_in 252 (by decide +kernel) (by decide +kernel)
theorem w253 : (Jvm.Cond.fieldLinkNest "LockstepNet" (220 : Nat) "LockstepNet$Tree" "parent" "[I" "LockstepNet") ∈ jN := jN_in 253 (by decide +kernel) (by decide +kernel)
theorem w254 : (Jvm.Cond.fieldLink "LockstepNet$Tree" (15 : Nat) "LockstepNet$Tree" "depth" "[I") ∈ jT := jT_in 254 (by decide +kernel) (by decide +kernel)
theorem w255 : (Jvm.Cond.fieldLinkNest "LockstepNet" (225 : Nat) "LockstepNet$Tree" "depth" "[I" "LockstepNet") ∈ jN := jN_in 255 (by decide +kernel) (by decide +kernel)
theorem w256 : (Jvm.Cond.fieldLink "LockstepNet$Tree" (18 : Nat) "LockstepNet$Tree" "children" "[I") ∈ jT := jT_in 256 (by decide +kernel) (by decide +kernel)
theorem w257 : (Jvm.Cond.fieldLinkNest "LockstepNet$Run" (183 : Nat) "LockstepNet$Tree" "children" "[I" "LockstepNet") ∈ jN := jN_in 257 (by decide +kernel) (by decide +kernel)
theorem w273 : (Jvm.Cond.fieldLink "LockstepNet$Clusters" (9 : Nat) "LockstepNet$Clusters" "size" "I") ∈ jT := jT_in 273 (by decide +kernel) (by decide +kernel)
theorem w274 : (Jvm.Cond.fieldLinkNest "LockstepNet" (158 : Nat) "LockstepNet$Clusters" "size" "I" "LockstepNet") ∈ jN := jN_in 274 (by decide +kernel) (by decide +kernel)
theorem w275 : (Jvm.Cond.fieldLink "LockstepNet$Clusters" (15 : Nat) "LockstepNet$Clusters" "chosenLinks" "I") ∈ jT := jT_in 275 (by decide +kernel) (by decide +kernel)
theorem w276 : (Jvm.Cond.fieldLinkNest "LockstepNet" (256 : Nat) "LockstepNet$Clusters" "chosenLinks" "I" "LockstepNet") ∈ jN := jN_in 276 (by decide +kernel) (by decide +kernel)
theorem w277 : (Jvm.Cond.fieldLink "LockstepNet$Clusters" (21 : Nat) "LockstepNet$Clusters" "trees" "LLockstepNet$Tree;") ∈ jT := jT_in 277 (by decide +kernel) (by decide +kernel)
theorem w278 : (Jvm.Cond.fieldLinkNest "LockstepNet$Run" (150 : Nat) "LockstepNet$Clusters" "trees" "LLockstepNet$Tree;" "LockstepNet") ∈ jN := jN_in 278 (by decide +kernel) (by decide +kernel)
theorem w279 : (Jvm.Cond.fieldLinkNest "LockstepNet" (231 : Nat) "LockstepNet$Clusters" "trees" "LLockstepNet$Tree;" "LockstepNet") ∈ jN := jN_in 279 (by decide +kernel) (by decide +kernel)
theorem w280 : (Jvm.Cond.fieldLink "LockstepNet$Clusters" (25 : Nat) "LockstepNet$Clusters" "clusterOf" "[I") ∈ jT := jT_in 280 (by decide +kernel) (by decide +kernel)
theorem w281 : (Jvm.Cond.fieldLinkNest "LockstepNet" (228 : Nat) "LockstepNet$Clusters" "clusterOf" "[I" "LockstepNet") ∈ jN := jN_in 281 (by decide +kernel) (by decide +kernel)
theorem w282 : (Jvm.Cond.fieldLink "LockstepNet$Clusters" (29 : Nat) "LockstepNet$Clusters" "chosenNeighbours" "[I") ∈ jT := jT_in 282 (by decide +kernel) (by decide +kernel)
theorem w283 : (Jvm.Cond.fieldLinkNest "LockstepNet$Run" (189 : Nat) "LockstepNet$Clusters" "chosenNeighbours" "[I" "LockstepNet") ∈ jN := jN_in 283 (by decide +kernel) (by decide +kernel)
theorem w284 : (Jvm.Cond.fieldLinkNest "LockstepNet" (234 : Nat) "LockstepNet$Clusters" "chosenNeighbours" "[I" "LockstepNet") ∈ jN := jN_in 284 (by decide +kernel) (by decide +kernel)
theorem w285 : (Jvm.Cond.fieldLink "LockstepNet$Clusters" (32 : Nat) "LockstepNet$Clusters" "chosenLink" "[I") ∈ jT := jT_in 285 (by decide +kernel) (by decide +kernel)
theorem w286 : (Jvm.Cond.fieldLinkNest "LockstepNet" (245 : Nat) "LockstepNet$Clusters" "chosenLink" "[I" "LockstepNet") ∈ jN := jN_in 286 (by decide +kernel) (by decide +kernel)
theorem w303 : (Jvm.Cond.fieldLink "LockstepNet$Run" (69 : Nat) "LockstepNet$Run" "net" "LLockstepNet$Net;") ∈ jT := jT_in 303 (by decide +kernel) (by decide +kernel)
theorem w304 : (Jvm.Cond.fieldLink "LockstepNet$Run" (78 : Nat) "LockstepNet$Run" "machine" "LLockstepNet$Machine;") ∈ jT := jT_in 304 (by decide +kernel) (by decide +kernel)
theorem w305 : (Jvm.Cond.fieldLinkNest "LockstepNet" (211 : Nat) "LockstepNet$Run" "machine" "LLockstepNet$Machine;" "LockstepNet") ∈ jN := jN_in 305 (by decide +kernel) (by decide +kernel)
theorem w306 : (Jvm.Cond.fieldLink "LockstepNet$Run" (12 : Nat) "LockstepNet$Run" "post" "LLockstepNet$Post;") ∈ jT := jT_in 306 (by decide +kernel) (by decide +kernel)
theorem w307 : (Jvm.Cond.fieldLinkNest "LockstepNet" (172 : Nat) "LockstepNet$Run" "post" "LLockstepNet$Post;" "LockstepNet") ∈ jN := jN_in 307 (by decide +kernel) (by decide +kernel)
theorem w308 : (Jvm.Cond.fieldLink "LockstepNet$Run" (21 : Nat) "LockstepNet$Run" "tree" "LLockstepNet$Tree;") ∈ jT := jT_in 308 (by decide +kernel) (by decide +kernel)
theorem w309 : (Jvm.Cond.fieldLinkNest "LockstepNet" (216 : Nat) "LockstepNet$Run" "tree" "LLockstepNet$Tree;" "LockstepNet") ∈ jN := jN_in 309 (by decide +kernel) (by decide +kernel)
theorem w310 : (Jvm.Cond.fieldLink "LockstepNet$Run" (28 : Nat) "LockstepNet$Run" "clusters" "LLockstepNet$Clusters;") ∈ jT := jT_in 310 (by decide +kernel) (by decide +kernel)
theorem w311 : (Jvm.Cond.fieldLinkNest "LockstepNet" (154 : Nat) "LockstepNet$Run" "clusters" "LLockstepNet$Clusters;" "LockstepNet") ∈ jN := jN_in 311 (by decide +kernel) (by decide +kernel)
theorem w312 : (Jvm.Cond.fieldLink "LockstepNet$Run" (32 : Nat) "LockstepNet$Run" "rounds" "[I") ∈ jT := jT_in 312 (by decide +kernel) (by decide +kernel)
theorem w313 : (Jvm.Cond.fieldLinkNest "LockstepNet" (208 : Nat) "LockstepNet$Run" "rounds" "[I" "LockstepNet") ∈ jN := jN_in 313 (by decide +kernel) (by decide +kernel)
theorem w314 : (Jvm.Cond.fieldLink "LockstepNet$Run" (36 : Nat) "LockstepNet$Run" "unreceipted" "[I") ∈ jT := jT_in 314 (by decide +kernel) (by decide +kernel)
theorem w315 : (Jvm.Cond.fieldLink "LockstepNet$Run" (41 : Nat) "LockstepNet$Run" "heard" "[[I") ∈ jT := jT_in 315 (by decide +kernel) (by decide +kernel)
theorem w316 : (Jvm.Cond.fieldLink "LockstepNet$Run" (44 : Nat) "LockstepNet$Run" "announced" "I") ∈ jT := jT_in 316 (by decide +kernel) (by decide +kernel)
theorem w317 : (Jvm.Cond.fieldLink "LockstepNet$Run" (48 : Nat) "LockstepNet$Run" "told" "I") ∈ jT := jT_in 317 (by decide +kernel) (by decide +kernel)
theorem w318 : (Jvm.Cond.fieldLink "LockstepNet$Run" (51 : Nat) "LockstepNet$Run" "reported" "I") ∈ jT := jT_in 318 (by decide +kernel) (by decide +kernel)
theorem w319 : (Jvm.Cond.fieldLink "LockstepNet$Run" (54 : Nat) "LockstepNet$Run" "stop" "I") ∈ jT := jT_in 319 (by decide +kernel) (by decide +kernel)
theorem w320 : (Jvm.Cond.fieldLinkNest "LockstepNet" (164 : Nat) "LockstepNet$Run" "stop" "I" "LockstepNet") ∈ jN := jN_in 320 (by decide +kernel) (by decide +kernel)
theorem w321 : (Jvm.Cond.fieldLink "LockstepNet$Run" (57 : Nat) "LockstepNet$Run" "widest" "I") ∈ jT := jT_in 321 (by decide +kernel) (by decide +kernel)
theorem w322 : (Jvm.Cond.fieldLinkNest "LockstepNet" (253 : Nat) "LockstepNet$Run" "widest" "I" "LockstepNet") ∈ jN := jN_in 322 (by decide +kernel) (by decide +kernel)
theorem w323 : (Jvm.Cond.fieldLink "LockstepNet$Run" (60 : Nat) "LockstepNet$Run" "border" "[I") ∈ jT := jT_in 323 (by decide +kernel) (by decide +kernel)
theorem w324 : (Jvm.Cond.fieldLink "LockstepNet$Run" (63 : Nat) "LockstepNet$Run" "wayFrom" "[I") ∈ jT := jT_in 324 (by decide +kernel) (by decide +kernel)
theorem w325 : (Jvm.Cond.fieldLink "LockstepNet$Run" (66 : Nat) "LockstepNet$Run" "stretches" "I") ∈ jT := jT_in 325 (by decide +kernel) (by decide +kernel)
theorem w326 : (Jvm.Cond.fieldLinkNest "LockstepNet" (200 : Nat) "LockstepNet$Run" "stretches" "I" "LockstepNet") ∈ jN := jN_in 326 (by decide +kernel) (by decide +kernel)
theorem w360 : (Jvm.Cond.fieldLink "LockstepNet" (10 : Nat) "LockstepNet" "program" "LLockstepNet$Program;") ∈ jT := jT_in 360 (by decide +kernel) (by decide +kernel)
theorem w361 : (Jvm.Cond.fieldLink "LockstepNet" (19 : Nat) "LockstepNet" "net" "LLockstepNet$Net;") ∈ jT := jT_in 361 (by decide +kernel) (by decide +kernel)
theorem w362 : (Jvm.Cond.fieldLink "LockstepNet" (23 : Nat) "LockstepNet" "inputs" "[I") ∈ jT := jT_in 362 (by decide +kernel) (by decide +kernel)
theorem w363 : (Jvm.Cond.fieldLink "LockstepNet" (32 : Nat) "LockstepNet" "plainMachine" "LLockstepNet$Machine;") ∈ jT := jT_in 363 (by decide +kernel) (by decide +kernel)
theorem w364 : (Jvm.Cond.fieldLink "LockstepNet" (39 : Nat) "LockstepNet" "run" "LLockstepNet$Run;") ∈ jT := jT_in 364 (by decide +kernel) (by decide +kernel)
theorem w365 : (Jvm.Cond.fieldLink "LockstepNet" (43 : Nat) "LockstepNet" "prepared" "Z") ∈ jT := jT_in 365 (by decide +kernel) (by decide +kernel)
theorem w383 : (Jvm.Cond.methodLink "LockstepNet" (116 : Nat) ({ cls := "LockstepNet$Program", name := "firstWrong", desc := "()I" } : Jvm.MethodName)) ∈ jT := jT_in 383 (by decide +kernel) (by decide +kernel)
theorem w384 : (Jvm.Cond.instanceMethod ({ cls := "LockstepNet$Program", name := "firstWrong", desc := "()I" } : Jvm.MethodName)) ∈ jT := jT_in 384 (by decide +kernel) (by decide +kernel)
theorem w385 : (Jvm.Cond.selects "LockstepNet$Program" ({ cls := "LockstepNet$Program", name := "firstWrong", desc := "()I" } : Jvm.MethodName) ({ cls := "LockstepNet$Program", name := "firstWrong", desc := "()I" } : Jvm.MethodName)) ∈ jT := jT_in 385 (by decide +kernel) (by decide +kernel)
theorem w386 : (Jvm.Cond.code ({ cls := "LockstepNet$Program", name := "firstWrong", desc := "()I" } : Jvm.MethodName) prog_6_method_5_code (4 : Nat) (Option.some Jvm.ClassFile.FieldType.int)) ∈ jT := jT_in 386 (by decide +kernel) (by decide +kernel)
theorem w387 : (Jvm.Cond.methodLink "LockstepNet$Program" (47 : Nat) ({ cls := "LockstepNet$Program", name := "hasWrongParts", desc := "(I)Z" } : Jvm.MethodName)) ∈ jT := jT_in 387 (by decide +kernel) (by decide +kernel)
theorem w389 : (Jvm.Cond.instanceMethod ({ cls := "LockstepNet$Program", name := "hasWrongParts", desc := "(I)Z" } : Jvm.MethodName)) ∈ jT := jT_in 389 (by decide +kernel) (by decide +kernel)
theorem w390 : (Jvm.Cond.code ({ cls := "LockstepNet$Program", name := "hasWrongParts", desc := "(I)Z" } : Jvm.MethodName) prog_6_method_6_code (4 : Nat) (Option.some Jvm.ClassFile.FieldType.boolean)) ∈ jT := jT_in 390 (by decide +kernel) (by decide +kernel)
theorem w391 : (Jvm.Cond.methodLink "LockstepNet$Program" (59 : Nat) ({ cls := "LockstepNet$Program", name := "isRegister", desc := "(I)Z" } : Jvm.MethodName)) ∈ jT := jT_in 391 (by decide +kernel) (by decide +kernel)
theorem w392 : (Jvm.Cond.static ({ cls := "LockstepNet$Program", name := "isRegister", desc := "(I)Z" } : Jvm.MethodName)) ∈ jT := jT_in 392 (by decide +kernel) (by decide +kernel)
theorem w393 : (Jvm.Cond.code ({ cls := "LockstepNet$Program", name := "isRegister", desc := "(I)Z" } : Jvm.MethodName) prog_6_method_7_code (1 : Nat) (Option.some Jvm.ClassFile.FieldType.boolean)) ∈ jT := jT_in 393 (by decide +kernel) (by decide +kernel)
theorem w394 : (Jvm.Cond.methodLink "LockstepNet$Program" (51 : Nat) ({ cls := "LockstepNet$Program", name := "standsWrong", desc := "(IZ)Z" } : Jvm.MethodName)) ∈ jT := jT_in 394 (by decide +kernel) (by decide +kernel)
theorem w396 : (Jvm.Cond.instanceMethod ({ cls := "LockstepNet$Program", name := "standsWrong", desc := "(IZ)Z" } : Jvm.MethodName)) ∈ jT := jT_in 396 (by decide +kernel) (by decide +kernel)
theorem w397 : (Jvm.Cond.code ({ cls := "LockstepNet$Program", name := "standsWrong", desc := "(IZ)Z" } : Jvm.MethodName) prog_6_method_8_code (3 : Nat) (Option.some Jvm.ClassFile.FieldType.boolean)) ∈ jT := jT_in 397 (by decide +kernel) (by decide +kernel)
theorem w398 : (Jvm.Cond.methodLink "LockstepNet$Program" (62 : Nat) ({ cls := "LockstepNet$Program", name := "skipsIntoEach", desc := "(I)Z" } : Jvm.MethodName)) ∈ jT := jT_in 398 (by decide +kernel) (by decide +kernel)
theorem w400 : (Jvm.Cond.instanceMethod ({ cls := "LockstepNet$Program", name := "skipsIntoEach", desc := "(I)Z" } : Jvm.MethodName)) ∈ jT := jT_in 400 (by decide +kernel) (by decide +kernel)
theorem w401 : (Jvm.Cond.code ({ cls := "LockstepNet$Program", name := "skipsIntoEach", desc := "(I)Z" } : Jvm.MethodName) prog_6_method_10_code (4 : Nat) (Option.some Jvm.ClassFile.FieldType.boolean)) ∈ jT := jT_in 401 (by decide +kernel) (by decide +kernel)
theorem w402 : (Jvm.Cond.methodLink "LockstepNet$Program" (55 : Nat) ({ cls := "LockstepNet$Program", name := "reachesTooFar", desc := "(II)Z" } : Jvm.MethodName)) ∈ jT := jT_in 402 (by decide +kernel) (by decide +kernel)
theorem w404 : (Jvm.Cond.instanceMethod ({ cls := "LockstepNet$Program", name := "reachesTooFar", desc := "(II)Z" } : Jvm.MethodName)) ∈ jT := jT_in 404 (by decide +kernel) (by decide +kernel)
theorem w405 : (Jvm.Cond.code ({ cls := "LockstepNet$Program", name := "reachesTooFar", desc := "(II)Z" } : Jvm.MethodName) prog_6_method_9_code (3 : Nat) (Option.some Jvm.ClassFile.FieldType.boolean)) ∈ jT := jT_in 405 (by decide +kernel) (by decide +kernel)
theorem w489 : (Jvm.Cond.methodLink "LockstepNet" (54 : Nat) ({ cls := "LockstepNet", name := "refuseWithRun", desc := "()V" } : Jvm.MethodName)) ∈ jT := jT_in 489 (by decide +kernel) (by decide +kernel)
theorem w491 : (Jvm.Cond.instanceMethod ({ cls := "LockstepNet", name := "refuseWithRun", desc := "()V" } : Jvm.MethodName)) ∈ jT := jT_in 491 (by decide +kernel) (by decide +kernel)
theorem w492 : (Jvm.Cond.code ({ cls := "LockstepNet", name := "refuseWithRun", desc := "()V" } : Jvm.MethodName) prog_1_method_30_code (1 : Nat) (Option.none : Option Jvm.ClassFile.FieldType)) ∈ jT := jT_in 492 (by decide +kernel) (by decide +kernel)
theorem w509 : (Jvm.Cond.methodLink "LockstepNet" (57 : Nat) ({ cls := "LockstepNet$Net", name := "empty", desc := "(I)V" } : Jvm.MethodName)) ∈ jT := jT_in 509 (by decide +kernel) (by decide +kernel)
theorem w510 : (Jvm.Cond.instanceMethod ({ cls := "LockstepNet$Net", name := "empty", desc := "(I)V" } : Jvm.MethodName)) ∈ jT := jT_in 510 (by decide +kernel) (by decide +kernel)
theorem w511 : (Jvm.Cond.selects "LockstepNet$Net" ({ cls := "LockstepNet$Net", name := "empty", desc := "(I)V" } : Jvm.MethodName) ({ cls := "LockstepNet$Net", name := "empty", desc := "(I)V" } : Jvm.MethodName)) ∈ jT := jT_in 511 (by decide +kernel) (by decide +kernel)
theorem w512 : (Jvm.Cond.code ({ cls := "LockstepNet$Net", name := "empty", desc := "(I)V" } : Jvm.MethodName) prog_4_method_2_code (2 : Nat) (Option.none : Option Jvm.ClassFile.FieldType)) ∈ jT := jT_in 512 (by decide +kernel) (by decide +kernel)
theorem w513 : (Jvm.Cond.methodLink "LockstepNet$Net" (37 : Nat) ({ cls := "java/util/Arrays", name := "fill", desc := "([II)V" } : Jvm.MethodName)) ∈ jT := jT_in 513 (by decide +kernel) (by decide +kernel)
theorem w514 : (Jvm.Cond.static ({ cls := "java/util/Arrays", name := "fill", desc := "([II)V" } : Jvm.MethodName)) ∈ jT := jT_in 514 (by decide +kernel) (by decide +kernel)
theorem w515 : (Jvm.Cond.code ({ cls := "java/util/Arrays", name := "fill", desc := "([II)V" } : Jvm.MethodName) prog_23_method_103_code (4 : Nat) (Option.none : Option Jvm.ClassFile.FieldType)) ∈ jT := jT_in 515 (by decide +kernel) (by decide +kernel)
theorem w516 : (Jvm.Cond.methodLink "LockstepNet" (61 : Nat) ({ cls := "java/util/Arrays", name := "fill", desc := "([II)V" } : Jvm.MethodName)) ∈ jT := jT_in 516 (by decide +kernel) (by decide +kernel)
theorem w517 : (Jvm.Cond.methodLink "LockstepNet" (67 : Nat) ({ cls := "LockstepNet$Machine", name := "begin", desc := "([I)V" } : Jvm.MethodName)) ∈ jT := jT_in 517 (by decide +kernel) (by decide +kernel)
theorem w518 : (Jvm.Cond.instanceMethod ({ cls := "LockstepNet$Machine", name := "begin", desc := "([I)V" } : Jvm.MethodName)) ∈ jT := jT_in 518 (by decide +kernel) (by decide +kernel)
theorem w519 : (Jvm.Cond.selects "LockstepNet$Machine" ({ cls := "LockstepNet$Machine", name := "begin", desc := "([I)V" } : Jvm.MethodName) ({ cls := "LockstepNet$Machine", name := "begin", desc := "([I)V" } : Jvm.MethodName)) ∈ jT := jT_in 519 (by decide +kernel) (by decide +kernel)
theorem w520 : (Jvm.Cond.code ({ cls := "LockstepNet$Machine", name := "begin", desc := "([I)V" } : Jvm.MethodName) prog_3_method_2_code (2 : Nat) (Option.none : Option Jvm.ClassFile.FieldType)) ∈ jT := jT_in 520 (by decide +kernel) (by decide +kernel)
theorem w521 : (Jvm.Cond.methodLink "LockstepNet$Machine" (42 : Nat) ({ cls := "java/lang/System", name := "arraycopy", desc := "(Ljava/lang/Object;ILjava/lang/Object;II)V" } : Jvm.MethodName)) ∈ jT := jT_in 521 (by decide +kernel) (by decide +kernel)
theorem w522 : (Jvm.Cond.static ({ cls := "java/lang/System", name := "arraycopy", desc := "(Ljava/lang/Object;ILjava/lang/Object;II)V" } : Jvm.MethodName)) ∈ jT := jT_in 522 (by decide +kernel) (by decide +kernel)
theorem w523 : (Jvm.Cond.native ({ cls := "java/lang/System", name := "arraycopy", desc := "(Ljava/lang/Object;ILjava/lang/Object;II)V" } : Jvm.MethodName)) ∈ jT := jT_in 523 (by decide +kernel) (by decide +kernel)
theorem w524 : (Jvm.Cond.methodLink "LockstepNet$Machine" (48 : Nat) ({ cls := "java/util/Arrays", name := "fill", desc := "([II)V" } : Jvm.MethodName)) ∈ jT := jT_in 524 (by decide +kernel) (by decide +kernel)
theorem w534 : (Jvm.Cond.methodLink "LockstepNet" (71 : Nat) ({ cls := "LockstepNet", name := "needNode", desc := "(I)V" } : Jvm.MethodName)) ∈ jT := jT_in 534 (by decide +kernel) (by decide +kernel)
theorem w536 : (Jvm.Cond.instanceMethod ({ cls := "LockstepNet", name := "needNode", desc := "(I)V" } : Jvm.MethodName)) ∈ jT := jT_in 536 (by decide +kernel) (by decide +kernel)
theorem w537 : (Jvm.Cond.code ({ cls := "LockstepNet", name := "needNode", desc := "(I)V" } : Jvm.MethodName) prog_1_method_25_code (2 : Nat) (Option.none : Option Jvm.ClassFile.FieldType)) ∈ jT := jT_in 537 (by decide +kernel) (by decide +kernel)
theorem w555 : (Jvm.Cond.methodLink "LockstepNet" (76 : Nat) ({ cls := "LockstepNet$Net", name := "areLinked", desc := "(II)Z" } : Jvm.MethodName)) ∈ jT := jT_in 555 (by decide +kernel) (by decide +kernel)
theorem w556 : (Jvm.Cond.instanceMethod ({ cls := "LockstepNet$Net", name := "areLinked", desc := "(II)Z" } : Jvm.MethodName)) ∈ jT := jT_in 556 (by decide +kernel) (by decide +kernel)
theorem w557 : (Jvm.Cond.selects "LockstepNet$Net" ({ cls := "LockstepNet$Net", name := "areLinked", desc := "(II)Z" } : Jvm.MethodName) ({ cls := "LockstepNet$Net", name := "areLinked", desc := "(II)Z" } : Jvm.MethodName)) ∈ jT := jT_in 557 (by decide +kernel) (by decide +kernel)
theorem w558 : (Jvm.Cond.code ({ cls := "LockstepNet$Net", name := "areLinked", desc := "(II)Z" } : Jvm.MethodName) prog_4_method_3_code (3 : Nat) (Option.some Jvm.ClassFile.FieldType.boolean)) ∈ jT := jT_in 558 (by decide +kernel) (by decide +kernel)
theorem w576 : (Jvm.Cond.methodLink "LockstepNet" (94 : Nat) ({ cls := "LockstepNet$Net", name := "join", desc := "(II)I" } : Jvm.MethodName)) ∈ jT := jT_in 576 (by decide +kernel) (by decide +kernel)
theorem w577 : (Jvm.Cond.instanceMethod ({ cls := "LockstepNet$Net", name := "join", desc := "(II)I" } : Jvm.MethodName)) ∈ jT := jT_in 577 (by decide +kernel) (by decide +kernel)
theorem w578 : (Jvm.Cond.selects "LockstepNet$Net" ({ cls := "LockstepNet$Net", name := "join", desc := "(II)I" } : Jvm.MethodName) ({ cls := "LockstepNet$Net", name := "join", desc := "(II)I" } : Jvm.MethodName)) ∈ jT := jT_in 578 (by decide +kernel) (by decide +kernel)
theorem w579 : (Jvm.Cond.code ({ cls := "LockstepNet$Net", name := "join", desc := "(II)I" } : Jvm.MethodName) prog_4_method_4_code (3 : Nat) (Option.some Jvm.ClassFile.FieldType.int)) ∈ jT := jT_in 579 (by decide +kernel) (by decide +kernel)
theorem w580 : (Jvm.Cond.methodLink "LockstepNet$Net" (43 : Nat) ({ cls := "LockstepNet$Net", name := "addPort", desc := "(II)V" } : Jvm.MethodName)) ∈ jT := jT_in 580 (by decide +kernel) (by decide +kernel)
theorem w582 : (Jvm.Cond.instanceMethod ({ cls := "LockstepNet$Net", name := "addPort", desc := "(II)V" } : Jvm.MethodName)) ∈ jT := jT_in 582 (by decide +kernel) (by decide +kernel)
theorem w583 : (Jvm.Cond.code ({ cls := "LockstepNet$Net", name := "addPort", desc := "(II)V" } : Jvm.MethodName) prog_4_method_5_code (3 : Nat) (Option.none : Option Jvm.ClassFile.FieldType)) ∈ jT := jT_in 583 (by decide +kernel) (by decide +kernel)
theorem w593 : (Jvm.Cond.methodLink "LockstepNet" (105 : Nat) ({ cls := "LockstepNet$Program", name := "put", desc := "(IIIII)V" } : Jvm.MethodName)) ∈ jT := jT_in 593 (by decide +kernel) (by decide +kernel)
theorem w594 : (Jvm.Cond.instanceMethod ({ cls := "LockstepNet$Program", name := "put", desc := "(IIIII)V" } : Jvm.MethodName)) ∈ jT := jT_in 594 (by decide +kernel) (by decide +kernel)
theorem w595 : (Jvm.Cond.selects "LockstepNet$Program" ({ cls := "LockstepNet$Program", name := "put", desc := "(IIIII)V" } : Jvm.MethodName) ({ cls := "LockstepNet$Program", name := "put", desc := "(IIIII)V" } : Jvm.MethodName)) ∈ jT := jT_in 595 (by decide +kernel) (by decide +kernel)
theorem w596 : (Jvm.Cond.code ({ cls := "LockstepNet$Program", name := "put", desc := "(IIIII)V" } : Jvm.MethodName) prog_6_method_2_code (6 : Nat) (Option.none : Option Jvm.ClassFile.FieldType)) ∈ jT := jT_in 596 (by decide +kernel) (by decide +kernel)
theorem w605 : (Jvm.Cond.methodLink "LockstepNet" (111 : Nat) ({ cls := "LockstepNet$Program", name := "load", desc := "(I)V" } : Jvm.MethodName)) ∈ jT := jT_in 605 (by decide +kernel) (by decide +kernel)
theorem w606 : (Jvm.Cond.instanceMethod ({ cls := "LockstepNet$Program", name := "load", desc := "(I)V" } : Jvm.MethodName)) ∈ jT := jT_in 606 (by decide +kernel) (by decide +kernel)
theorem w607 : (Jvm.Cond.selects "LockstepNet$Program" ({ cls := "LockstepNet$Program", name := "load", desc := "(I)V" } : Jvm.MethodName) ({ cls := "LockstepNet$Program", name := "load", desc := "(I)V" } : Jvm.MethodName)) ∈ jT := jT_in 607 (by decide +kernel) (by decide +kernel)
theorem w608 : (Jvm.Cond.code ({ cls := "LockstepNet$Program", name := "load", desc := "(I)V" } : Jvm.MethodName) prog_6_method_3_code (4 : Nat) (Option.none : Option Jvm.ClassFile.FieldType)) ∈ jT := jT_in 608 (by decide +kernel) (by decide +kernel)
theorem w609 : (Jvm.Cond.methodLink "LockstepNet$Program" (28 : Nat) ({ cls := "LockstepNet$Program", name := "builtInWords", desc := "(I)[I" } : Jvm.MethodName)) ∈ jT := jT_in 609 (by decide +kernel) (by decide +kernel)
theorem w610 : (Jvm.Cond.static ({ cls := "LockstepNet$Program", name := "builtInWords", desc := "(I)[I" } : Jvm.MethodName)) ∈ jT := jT_in 610 (by decide +kernel) (by decide +kernel)
theorem w611 : (Jvm.Cond.code ({ cls := "LockstepNet$Program", name := "builtInWords", desc := "(I)[I" } : Jvm.MethodName) prog_6_method_4_code (1 : Nat) (Option.some (Jvm.ClassFile.FieldType.array Jvm.ClassFile.FieldType.int))) ∈ jT := jT_in 611 (by decide +kernel) (by decide +kernel)
theorem w612 : (Jvm.Cond.fieldLink "LockstepNet$Program" (32 : Nat) "LockstepNet$Program" "LAYERS" "[I") ∈ jT := jT_in 612 (by decide +kernel) (by decide +kernel)
theorem w614 : (Jvm.Cond.fieldLink "LockstepNet$Program" (35 : Nat) "LockstepNet$Program" "LEAST" "[I") ∈ jT := jT_in 614 (by decide +kernel) (by decide +kernel)
theorem w616 : (Jvm.Cond.fieldLink "LockstepNet$Program" (38 : Nat) "LockstepNet$Program" "CELLS" "[I") ∈ jT := jT_in 616 (by decide +kernel) (by decide +kernel)
theorem w618 : (Jvm.Cond.fieldLink "LockstepNet$Program" (41 : Nat) "LockstepNet$Program" "WALKS" "[I") ∈ jT := jT_in 618 (by decide +kernel) (by decide +kernel)
theorem w620 : (Jvm.Cond.fieldLink "LockstepNet$Program" (44 : Nat) "LockstepNet$Program" "COLOURS" "[I") ∈ jT := jT_in 620 (by decide +kernel) (by decide +kernel)
theorem w638 : (Jvm.Cond.methodLink "LockstepNet" (120 : Nat) ({ cls := "LockstepNet", name := "needRegister", desc := "(I)V" } : Jvm.MethodName)) ∈ jT := jT_in 638 (by decide +kernel) (by decide +kernel)
theorem w639 : (Jvm.Cond.static ({ cls := "LockstepNet", name := "needRegister", desc := "(I)V" } : Jvm.MethodName)) ∈ jT := jT_in 639 (by decide +kernel) (by decide +kernel)
theorem w640 : (Jvm.Cond.code ({ cls := "LockstepNet", name := "needRegister", desc := "(I)V" } : Jvm.MethodName) prog_1_method_26_code (1 : Nat) (Option.none : Option Jvm.ClassFile.FieldType)) ∈ jT := jT_in 640 (by decide +kernel) (by decide +kernel)
theorem w665 : (Jvm.Cond.methodLink "LockstepNet" (125 : Nat) ({ cls := "LockstepNet", name := "refuseWrongWord", desc := "()V" } : Jvm.MethodName)) ∈ jT := jT_in 665 (by decide +kernel) (by decide +kernel)
theorem w667 : (Jvm.Cond.instanceMethod ({ cls := "LockstepNet", name := "refuseWrongWord", desc := "()V" } : Jvm.MethodName)) ∈ jT := jT_in 667 (by decide +kernel) (by decide +kernel)
theorem w668 : (Jvm.Cond.code ({ cls := "LockstepNet", name := "refuseWrongWord", desc := "()V" } : Jvm.MethodName) prog_1_method_31_code (1 : Nat) (Option.none : Option Jvm.ClassFile.FieldType)) ∈ jT := jT_in 668 (by decide +kernel) (by decide +kernel)
theorem w670 : (Jvm.Cond.methodLink "LockstepNet" (129 : Nat) ({ cls := "LockstepNet$Machine", name := "doRound", desc := "(II)V" } : Jvm.MethodName)) ∈ jT := jT_in 670 (by decide +kernel) (by decide +kernel)
theorem w671 : (Jvm.Cond.instanceMethod ({ cls := "LockstepNet$Machine", name := "doRound", desc := "(II)V" } : Jvm.MethodName)) ∈ jT := jT_in 671 (by decide +kernel) (by decide +kernel)
theorem w672 : (Jvm.Cond.selects "LockstepNet$Machine" ({ cls := "LockstepNet$Machine", name := "doRound", desc := "(II)V" } : Jvm.MethodName) ({ cls := "LockstepNet$Machine", name := "doRound", desc := "(II)V" } : Jvm.MethodName)) ∈ jT := jT_in 672 (by decide +kernel) (by decide +kernel)
theorem w673 : (Jvm.Cond.code ({ cls := "LockstepNet$Machine", name := "doRound", desc := "(II)V" } : Jvm.MethodName) prog_3_method_6_code (7 : Nat) (Option.none : Option Jvm.ClassFile.FieldType)) ∈ jT := jT_in 673 (by decide +kernel) (by decide +kernel)
theorem w674 : (Jvm.Cond.methodLink "LockstepNet$Machine" (85 : Nat) ({ cls := "LockstepNet$Machine", name := "doWord", desc := "(II)I" } : Jvm.MethodName)) ∈ jT := jT_in 674 (by decide +kernel) (by decide +kernel)
theorem w676 : (Jvm.Cond.instanceMethod ({ cls := "LockstepNet$Machine", name := "doWord", desc := "(II)I" } : Jvm.MethodName)) ∈ jT := jT_in 676 (by decide +kernel) (by decide +kernel)
theorem w677 : (Jvm.Cond.code ({ cls := "LockstepNet$Machine", name := "doWord", desc := "(II)I" } : Jvm.MethodName) prog_3_method_8_code (4 : Nat) (Option.some Jvm.ClassFile.FieldType.int)) ∈ jT := jT_in 677 (by decide +kernel) (by decide +kernel)
theorem w678 : (Jvm.Cond.methodLink "LockstepNet$Machine" (94 : Nat) ({ cls := "LockstepNet$Machine", name := "received", desc := "(IZ)I" } : Jvm.MethodName)) ∈ jT := jT_in 678 (by decide +kernel) (by decide +kernel)
theorem w680 : (Jvm.Cond.instanceMethod ({ cls := "LockstepNet$Machine", name := "received", desc := "(IZ)I" } : Jvm.MethodName)) ∈ jT := jT_in 680 (by decide +kernel) (by decide +kernel)
theorem w681 : (Jvm.Cond.code ({ cls := "LockstepNet$Machine", name := "received", desc := "(IZ)I" } : Jvm.MethodName) prog_3_method_9_code (4 : Nat) (Option.some Jvm.ClassFile.FieldType.int)) ∈ jT := jT_in 681 (by decide +kernel) (by decide +kernel)
theorem w682 : (Jvm.Cond.methodLink "LockstepNet$Machine" (59 : Nat) ({ cls := "LockstepNet$Machine", name := "boxOf", desc := "(II)I" } : Jvm.MethodName)) ∈ jT := jT_in 682 (by decide +kernel) (by decide +kernel)
theorem w683 : (Jvm.Cond.static ({ cls := "LockstepNet$Machine", name := "boxOf", desc := "(II)I" } : Jvm.MethodName)) ∈ jT := jT_in 683 (by decide +kernel) (by decide +kernel)
theorem w684 : (Jvm.Cond.code ({ cls := "LockstepNet$Machine", name := "boxOf", desc := "(II)I" } : Jvm.MethodName) prog_3_method_7_code (2 : Nat) (Option.some Jvm.ClassFile.FieldType.int)) ∈ jT := jT_in 684 (by decide +kernel) (by decide +kernel)
theorem w685 : (Jvm.Cond.methodLink "LockstepNet$Machine" (98 : Nat) ({ cls := "LockstepNet$Machine", name := "reckoned", desc := "(I)I" } : Jvm.MethodName)) ∈ jT := jT_in 685 (by decide +kernel) (by decide +kernel)
theorem w687 : (Jvm.Cond.instanceMethod ({ cls := "LockstepNet$Machine", name := "reckoned", desc := "(I)I" } : Jvm.MethodName)) ∈ jT := jT_in 687 (by decide +kernel) (by decide +kernel)
theorem w688 : (Jvm.Cond.code ({ cls := "LockstepNet$Machine", name := "reckoned", desc := "(I)I" } : Jvm.MethodName) prog_3_method_10_code (4 : Nat) (Option.some Jvm.ClassFile.FieldType.int)) ∈ jT := jT_in 688 (by decide +kernel) (by decide +kernel)
theorem w689 : (Jvm.Cond.methodLink "LockstepNet$Machine" (102 : Nat) ({ cls := "java/lang/Integer", name := "bitCount", desc := "(I)I" } : Jvm.MethodName)) ∈ jT := jT_in 689 (by decide +kernel) (by decide +kernel)
theorem w690 : (Jvm.Cond.static ({ cls := "java/lang/Integer", name := "bitCount", desc := "(I)I" } : Jvm.MethodName)) ∈ jT := jT_in 690 (by decide +kernel) (by decide +kernel)
theorem w691 : (Jvm.Cond.code ({ cls := "java/lang/Integer", name := "bitCount", desc := "(I)I" } : Jvm.MethodName) prog_16_method_49_code (1 : Nat) (Option.some Jvm.ClassFile.FieldType.int)) ∈ jT := jT_in 691 (by decide +kernel) (by decide +kernel)
theorem w692 : (Jvm.Cond.constant "java/lang/Integer" (265 : Nat) (1431655765 : Int32)) ∈ jT := jT_in 692 (by decide +kernel) (by decide +kernel)
theorem w693 : (Jvm.Cond.constant "java/lang/Integer" (266 : Nat) (858993459 : Int32)) ∈ jT := jT_in 693 (by decide +kernel) (by decide +kernel)
theorem w694 : (Jvm.Cond.constant "java/lang/Integer" (267 : Nat) (252645135 : Int32)) ∈ jT := jT_in 694 (by decide +kernel) (by decide +kernel)
theorem w695 : (Jvm.Cond.methodLink "LockstepNet$Machine" (110 : Nat) ({ cls := "LockstepNet$Machine", name := "combined", desc := "(III)I" } : Jvm.MethodName)) ∈ jT := jT_in 695 (by decide +kernel) (by decide +kernel)
theorem w696 : (Jvm.Cond.static ({ cls := "LockstepNet$Machine", name := "combined", desc := "(III)I" } : Jvm.MethodName)) ∈ jT := jT_in 696 (by decide +kernel) (by decide +kernel)
theorem w697 : (Jvm.Cond.code ({ cls := "LockstepNet$Machine", name := "combined", desc := "(III)I" } : Jvm.MethodName) prog_3_method_11_code (3 : Nat) (Option.some Jvm.ClassFile.FieldType.int)) ∈ jT := jT_in 697 (by decide +kernel) (by decide +kernel)
theorem w698 : (Jvm.Cond.methodLink "LockstepNet" (133 : Nat) ({ cls := "LockstepNet$Machine", name := "passOn", desc := "(II)V" } : Jvm.MethodName)) ∈ jT := jT_in 698 (by decide +kernel) (by decide +kernel)
theorem w699 : (Jvm.Cond.instanceMethod ({ cls := "LockstepNet$Machine", name := "passOn", desc := "(II)V" } : Jvm.MethodName)) ∈ jT := jT_in 699 (by decide +kernel) (by decide +kernel)
theorem w700 : (Jvm.Cond.selects "LockstepNet$Machine" ({ cls := "LockstepNet$Machine", name := "passOn", desc := "(II)V" } : Jvm.MethodName) ({ cls := "LockstepNet$Machine", name := "passOn", desc := "(II)V" } : Jvm.MethodName)) ∈ jT := jT_in 700 (by decide +kernel) (by decide +kernel)
theorem w701 : (Jvm.Cond.code ({ cls := "LockstepNet$Machine", name := "passOn", desc := "(II)V" } : Jvm.MethodName) prog_3_method_4_code (4 : Nat) (Option.none : Option Jvm.ClassFile.FieldType)) ∈ jT := jT_in 701 (by decide +kernel) (by decide +kernel)
theorem w702 : (Jvm.Cond.methodLink "LockstepNet$Machine" (66 : Nat) ({ cls := "LockstepNet$Machine", name := "goesBy", desc := "(I)Z" } : Jvm.MethodName)) ∈ jT := jT_in 702 (by decide +kernel) (by decide +kernel)
theorem w703 : (Jvm.Cond.instanceMethod ({ cls := "LockstepNet$Machine", name := "goesBy", desc := "(I)Z" } : Jvm.MethodName)) ∈ jT := jT_in 703 (by decide +kernel) (by decide +kernel)
theorem w704 : (Jvm.Cond.selects "LockstepNet$Machine" ({ cls := "LockstepNet$Machine", name := "goesBy", desc := "(I)Z" } : Jvm.MethodName) ({ cls := "LockstepNet$Machine", name := "goesBy", desc := "(I)Z" } : Jvm.MethodName)) ∈ jT := jT_in 704 (by decide +kernel) (by decide +kernel)
theorem w705 : (Jvm.Cond.code ({ cls := "LockstepNet$Machine", name := "goesBy", desc := "(I)Z" } : Jvm.MethodName) prog_3_method_5_code (2 : Nat) (Option.some Jvm.ClassFile.FieldType.boolean)) ∈ jT := jT_in 705 (by decide +kernel) (by decide +kernel)
theorem w706 : (Jvm.Cond.methodLink "LockstepNet$Machine" (73 : Nat) ({ cls := "LockstepNet$Machine", name := "accept", desc := "(IIII)V" } : Jvm.MethodName)) ∈ jT := jT_in 706 (by decide +kernel) (by decide +kernel)
theorem w707 : (Jvm.Cond.instanceMethod ({ cls := "LockstepNet$Machine", name := "accept", desc := "(IIII)V" } : Jvm.MethodName)) ∈ jT := jT_in 707 (by decide +kernel) (by decide +kernel)
theorem w708 : (Jvm.Cond.selects "LockstepNet$Machine" ({ cls := "LockstepNet$Machine", name := "accept", desc := "(IIII)V" } : Jvm.MethodName) ({ cls := "LockstepNet$Machine", name := "accept", desc := "(IIII)V" } : Jvm.MethodName)) ∈ jT := jT_in 708 (by decide +kernel) (by decide +kernel)
theorem w709 : (Jvm.Cond.code ({ cls := "LockstepNet$Machine", name := "accept", desc := "(IIII)V" } : Jvm.MethodName) prog_3_method_3_code (7 : Nat) (Option.none : Option Jvm.ClassFile.FieldType)) ∈ jT := jT_in 709 (by decide +kernel) (by decide +kernel)
theorem w724 : (Jvm.Cond.methodLink "LockstepNet" (139 : Nat) ({ cls := "LockstepNet", name := "isWay", desc := "(I)Z" } : Jvm.MethodName)) ∈ jT := jT_in 724 (by decide +kernel) (by decide +kernel)
theorem w725 : (Jvm.Cond.static ({ cls := "LockstepNet", name := "isWay", desc := "(I)Z" } : Jvm.MethodName)) ∈ jT := jT_in 725 (by decide +kernel) (by decide +kernel)
theorem w726 : (Jvm.Cond.code ({ cls := "LockstepNet", name := "isWay", desc := "(I)Z" } : Jvm.MethodName) prog_1_method_24_code (1 : Nat) (Option.some Jvm.ClassFile.FieldType.boolean)) ∈ jT := jT_in 726 (by decide +kernel) (by decide +kernel)
theorem w728 : (Jvm.Cond.methodLink "LockstepNet" (145 : Nat) ({ cls := "LockstepNet$Net", name := "isConnected", desc := "()Z" } : Jvm.MethodName)) ∈ jT := jT_in 728 (by decide +kernel) (by decide +kernel)
theorem w729 : (Jvm.Cond.instanceMethod ({ cls := "LockstepNet$Net", name := "isConnected", desc := "()Z" } : Jvm.MethodName)) ∈ jT := jT_in 729 (by decide +kernel) (by decide +kernel)
theorem w730 : (Jvm.Cond.selects "LockstepNet$Net" ({ cls := "LockstepNet$Net", name := "isConnected", desc := "()Z" } : Jvm.MethodName) ({ cls := "LockstepNet$Net", name := "isConnected", desc := "()Z" } : Jvm.MethodName)) ∈ jT := jT_in 730 (by decide +kernel) (by decide +kernel)
theorem w731 : (Jvm.Cond.code ({ cls := "LockstepNet$Net", name := "isConnected", desc := "()Z" } : Jvm.MethodName) prog_4_method_8_code (3 : Nat) (Option.some Jvm.ClassFile.FieldType.boolean)) ∈ jT := jT_in 731 (by decide +kernel) (by decide +kernel)
theorem w732 : (Jvm.Cond.methodLink "LockstepNet$Net" (47 : Nat) ({ cls := "LockstepNet$Net", name := "nextTo", desc := "(I)I" } : Jvm.MethodName)) ∈ jT := jT_in 732 (by decide +kernel) (by decide +kernel)
theorem w733 : (Jvm.Cond.instanceMethod ({ cls := "LockstepNet$Net", name := "nextTo", desc := "(I)I" } : Jvm.MethodName)) ∈ jT := jT_in 733 (by decide +kernel) (by decide +kernel)
theorem w734 : (Jvm.Cond.selects "LockstepNet$Net" ({ cls := "LockstepNet$Net", name := "nextTo", desc := "(I)I" } : Jvm.MethodName) ({ cls := "LockstepNet$Net", name := "nextTo", desc := "(I)I" } : Jvm.MethodName)) ∈ jT := jT_in 734 (by decide +kernel) (by decide +kernel)
theorem w735 : (Jvm.Cond.code ({ cls := "LockstepNet$Net", name := "nextTo", desc := "(I)I" } : Jvm.MethodName) prog_4_method_6_code (4 : Nat) (Option.some Jvm.ClassFile.FieldType.int)) ∈ jT := jT_in 735 (by decide +kernel) (by decide +kernel)
theorem w736 : (Jvm.Cond.methodLink "LockstepNet$Net" (51 : Nat) ({ cls := "LockstepNet$Net", name := "allNodes", desc := "()I" } : Jvm.MethodName)) ∈ jT := jT_in 736 (by decide +kernel) (by decide +kernel)
theorem w737 : (Jvm.Cond.instanceMethod ({ cls := "LockstepNet$Net", name := "allNodes", desc := "()I" } : Jvm.MethodName)) ∈ jT := jT_in 737 (by decide +kernel) (by decide +kernel)
theorem w738 : (Jvm.Cond.selects "LockstepNet$Net" ({ cls := "LockstepNet$Net", name := "allNodes", desc := "()I" } : Jvm.MethodName) ({ cls := "LockstepNet$Net", name := "allNodes", desc := "()I" } : Jvm.MethodName)) ∈ jT := jT_in 738 (by decide +kernel) (by decide +kernel)
theorem w739 : (Jvm.Cond.code ({ cls := "LockstepNet$Net", name := "allNodes", desc := "()I" } : Jvm.MethodName) prog_4_method_7_code (1 : Nat) (Option.some Jvm.ClassFile.FieldType.int)) ∈ jT := jT_in 739 (by decide +kernel) (by decide +kernel)
theorem w741 : (Jvm.Cond.methodLink "LockstepNet" (151 : Nat) ({ cls := "LockstepNet$Run", name := "begin", desc := "([III)V" } : Jvm.MethodName)) ∈ jT := jT_in 741 (by decide +kernel) (by decide +kernel)
theorem w742 : (Jvm.Cond.instanceMethod ({ cls := "LockstepNet$Run", name := "begin", desc := "([III)V" } : Jvm.MethodName)) ∈ jT := jT_in 742 (by decide +kernel) (by decide +kernel)
theorem w743 : (Jvm.Cond.selects "LockstepNet$Run" ({ cls := "LockstepNet$Run", name := "begin", desc := "([III)V" } : Jvm.MethodName) ({ cls := "LockstepNet$Run", name := "begin", desc := "([III)V" } : Jvm.MethodName)) ∈ jT := jT_in 743 (by decide +kernel) (by decide +kernel)
theorem w744 : (Jvm.Cond.code ({ cls := "LockstepNet$Run", name := "begin", desc := "([III)V" } : Jvm.MethodName) prog_7_method_2_code (5 : Nat) (Option.none : Option Jvm.ClassFile.FieldType)) ∈ jT := jT_in 744 (by decide +kernel) (by decide +kernel)
theorem w745 : (Jvm.Cond.methodLink "LockstepNet$Run" (82 : Nat) ({ cls := "LockstepNet$Machine", name := "begin", desc := "([I)V" } : Jvm.MethodName)) ∈ jT := jT_in 745 (by decide +kernel) (by decide +kernel)
theorem w746 : (Jvm.Cond.methodLink "LockstepNet$Run" (86 : Nat) ({ cls := "LockstepNet$Post", name := "empty", desc := "()V" } : Jvm.MethodName)) ∈ jT := jT_in 746 (by decide +kernel) (by decide +kernel)
theorem w747 : (Jvm.Cond.instanceMethod ({ cls := "LockstepNet$Post", name := "empty", desc := "()V" } : Jvm.MethodName)) ∈ jT := jT_in 747 (by decide +kernel) (by decide +kernel)
theorem w748 : (Jvm.Cond.selects "LockstepNet$Post" ({ cls := "LockstepNet$Post", name := "empty", desc := "()V" } : Jvm.MethodName) ({ cls := "LockstepNet$Post", name := "empty", desc := "()V" } : Jvm.MethodName)) ∈ jT := jT_in 748 (by decide +kernel) (by decide +kernel)
theorem w749 : (Jvm.Cond.code ({ cls := "LockstepNet$Post", name := "empty", desc := "()V" } : Jvm.MethodName) prog_5_method_2_code (1 : Nat) (Option.none : Option Jvm.ClassFile.FieldType)) ∈ jT := jT_in 749 (by decide +kernel) (by decide +kernel)
theorem w750 : (Jvm.Cond.methodLink "LockstepNet$Post" (24 : Nat) ({ cls := "java/util/Arrays", name := "fill", desc := "([II)V" } : Jvm.MethodName)) ∈ jT := jT_in 750 (by decide +kernel) (by decide +kernel)
theorem w751 : (Jvm.Cond.methodLink "LockstepNet$Run" (89 : Nat) ({ cls := "LockstepNet$Net", name := "allNodes", desc := "()I" } : Jvm.MethodName)) ∈ jT := jT_in 751 (by decide +kernel) (by decide +kernel)
theorem w752 : (Jvm.Cond.methodLink "LockstepNet$Run" (95 : Nat) ({ cls := "LockstepNet$Tree", name := "grow", desc := "(LLockstepNet$Net;III)I" } : Jvm.MethodName)) ∈ jT := jT_in 752 (by decide +kernel) (by decide +kernel)
theorem w753 : (Jvm.Cond.instanceMethod ({ cls := "LockstepNet$Tree", name := "grow", desc := "(LLockstepNet$Net;III)I" } : Jvm.MethodName)) ∈ jT := jT_in 753 (by decide +kernel) (by decide +kernel)
theorem w754 : (Jvm.Cond.selects "LockstepNet$Tree" ({ cls := "LockstepNet$Tree", name := "grow", desc := "(LLockstepNet$Net;III)I" } : Jvm.MethodName) ({ cls := "LockstepNet$Tree", name := "grow", desc := "(LLockstepNet$Net;III)I" } : Jvm.MethodName)) ∈ jT := jT_in 754 (by decide +kernel) (by decide +kernel)
theorem w755 : (Jvm.Cond.code ({ cls := "LockstepNet$Tree", name := "grow", desc := "(LLockstepNet$Net;III)I" } : Jvm.MethodName) prog_8_method_4_code (10 : Nat) (Option.some Jvm.ClassFile.FieldType.int)) ∈ jT := jT_in 755 (by decide +kernel) (by decide +kernel)
theorem w756 : (Jvm.Cond.methodLink "LockstepNet$Tree" (21 : Nat) ({ cls := "LockstepNet$Tree", name := "plant", desc := "(I)V" } : Jvm.MethodName)) ∈ jT := jT_in 756 (by decide +kernel) (by decide +kernel)
theorem w757 : (Jvm.Cond.instanceMethod ({ cls := "LockstepNet$Tree", name := "plant", desc := "(I)V" } : Jvm.MethodName)) ∈ jT := jT_in 757 (by decide +kernel) (by decide +kernel)
theorem w758 : (Jvm.Cond.selects "LockstepNet$Tree" ({ cls := "LockstepNet$Tree", name := "plant", desc := "(I)V" } : Jvm.MethodName) ({ cls := "LockstepNet$Tree", name := "plant", desc := "(I)V" } : Jvm.MethodName)) ∈ jT := jT_in 758 (by decide +kernel) (by decide +kernel)
theorem w759 : (Jvm.Cond.code ({ cls := "LockstepNet$Tree", name := "plant", desc := "(I)V" } : Jvm.MethodName) prog_8_method_2_code (2 : Nat) (Option.none : Option Jvm.ClassFile.FieldType)) ∈ jT := jT_in 759 (by decide +kernel) (by decide +kernel)
theorem w760 : (Jvm.Cond.methodLink "LockstepNet$Tree" (31 : Nat) ({ cls := "LockstepNet$Net", name := "nextTo", desc := "(I)I" } : Jvm.MethodName)) ∈ jT := jT_in 760 (by decide +kernel) (by decide +kernel)
theorem w761 : (Jvm.Cond.methodLink "LockstepNet$Tree" (35 : Nat) ({ cls := "java/lang/Integer", name := "bitCount", desc := "(I)I" } : Jvm.MethodName)) ∈ jT := jT_in 761 (by decide +kernel) (by decide +kernel)
theorem w762 : (Jvm.Cond.methodLinkNest "LockstepNet$Tree" (43 : Nat) ({ cls := "LockstepNet", name := "lowestNode", desc := "(I)I" } : Jvm.MethodName) "LockstepNet") ∈ jN := jN_in 762 (by decide +kernel) (by decide +kernel)
theorem w763 : (Jvm.Cond.static ({ cls := "LockstepNet", name := "lowestNode", desc := "(I)I" } : Jvm.MethodName)) ∈ jT := jT_in 763 (by decide +kernel) (by decide +kernel)
theorem w764 : (Jvm.Cond.code ({ cls := "LockstepNet", name := "lowestNode", desc := "(I)I" } : Jvm.MethodName) prog_1_method_32_code (1 : Nat) (Option.some Jvm.ClassFile.FieldType.int)) ∈ jT := jT_in 764 (by decide +kernel) (by decide +kernel)
theorem w765 : (Jvm.Cond.methodLink "LockstepNet" (237 : Nat) ({ cls := "java/lang/Integer", name := "bitCount", desc := "(I)I" } : Jvm.MethodName)) ∈ jT := jT_in 765 (by decide +kernel) (by decide +kernel)
theorem w766 : (Jvm.Cond.methodLink "LockstepNet$Tree" (46 : Nat) ({ cls := "LockstepNet$Tree", name := "hang", desc := "(II)V" } : Jvm.MethodName)) ∈ jT := jT_in 766 (by decide +kernel) (by decide +kernel)
theorem w767 : (Jvm.Cond.instanceMethod ({ cls := "LockstepNet$Tree", name := "hang", desc := "(II)V" } : Jvm.MethodName)) ∈ jT := jT_in 767 (by decide +kernel) (by decide +kernel)
theorem w768 : (Jvm.Cond.selects "LockstepNet$Tree" ({ cls := "LockstepNet$Tree", name := "hang", desc := "(II)V" } : Jvm.MethodName) ({ cls := "LockstepNet$Tree", name := "hang", desc := "(II)V" } : Jvm.MethodName)) ∈ jT := jT_in 768 (by decide +kernel) (by decide +kernel)
theorem w769 : (Jvm.Cond.code ({ cls := "LockstepNet$Tree", name := "hang", desc := "(II)V" } : Jvm.MethodName) prog_8_method_3_code (3 : Nat) (Option.none : Option Jvm.ClassFile.FieldType)) ∈ jT := jT_in 769 (by decide +kernel) (by decide +kernel)
theorem w770 : (Jvm.Cond.methodLink "LockstepNet$Run" (99 : Nat) ({ cls := "LockstepNet$Clusters", name := "make", desc := "(LLockstepNet$Net;I)V" } : Jvm.MethodName)) ∈ jT := jT_in 770 (by decide +kernel) (by decide +kernel)
theorem w771 : (Jvm.Cond.instanceMethod ({ cls := "LockstepNet$Clusters", name := "make", desc := "(LLockstepNet$Net;I)V" } : Jvm.MethodName)) ∈ jT := jT_in 771 (by decide +kernel) (by decide +kernel)
theorem w772 : (Jvm.Cond.selects "LockstepNet$Clusters" ({ cls := "LockstepNet$Clusters", name := "make", desc := "(LLockstepNet$Net;I)V" } : Jvm.MethodName) ({ cls := "LockstepNet$Clusters", name := "make", desc := "(LLockstepNet$Net;I)V" } : Jvm.MethodName)) ∈ jT := jT_in 772 (by decide +kernel) (by decide +kernel)
theorem w773 : (Jvm.Cond.code ({ cls := "LockstepNet$Clusters", name := "make", desc := "(LLockstepNet$Net;I)V" } : Jvm.MethodName) prog_2_method_2_code (6 : Nat) (Option.none : Option Jvm.ClassFile.FieldType)) ∈ jT := jT_in 773 (by decide +kernel) (by decide +kernel)
theorem w774 : (Jvm.Cond.methodLink "LockstepNet$Clusters" (35 : Nat) ({ cls := "LockstepNet$Net", name := "allNodes", desc := "()I" } : Jvm.MethodName)) ∈ jT := jT_in 774 (by decide +kernel) (by decide +kernel)
theorem w775 : (Jvm.Cond.methodLink "LockstepNet$Clusters" (42 : Nat) ({ cls := "LockstepNet$Tree", name := "grow", desc := "(LLockstepNet$Net;III)I" } : Jvm.MethodName)) ∈ jT := jT_in 775 (by decide +kernel) (by decide +kernel)
theorem w776 : (Jvm.Cond.methodLink "LockstepNet$Clusters" (46 : Nat) ({ cls := "LockstepNet$Clusters", name := "number", desc := "(II)V" } : Jvm.MethodName)) ∈ jT := jT_in 776 (by decide +kernel) (by decide +kernel)
theorem w778 : (Jvm.Cond.instanceMethod ({ cls := "LockstepNet$Clusters", name := "number", desc := "(II)V" } : Jvm.MethodName)) ∈ jT := jT_in 778 (by decide +kernel) (by decide +kernel)
theorem w779 : (Jvm.Cond.code ({ cls := "LockstepNet$Clusters", name := "number", desc := "(II)V" } : Jvm.MethodName) prog_2_method_3_code (4 : Nat) (Option.none : Option Jvm.ClassFile.FieldType)) ∈ jT := jT_in 779 (by decide +kernel) (by decide +kernel)
theorem w780 : (Jvm.Cond.methodLink "LockstepNet$Clusters" (50 : Nat) ({ cls := "LockstepNet$Clusters", name := "choose", desc := "(LLockstepNet$Net;)V" } : Jvm.MethodName)) ∈ jT := jT_in 780 (by decide +kernel) (by decide +kernel)
theorem w782 : (Jvm.Cond.instanceMethod ({ cls := "LockstepNet$Clusters", name := "choose", desc := "(LLockstepNet$Net;)V" } : Jvm.MethodName)) ∈ jT := jT_in 782 (by decide +kernel) (by decide +kernel)
theorem w783 : (Jvm.Cond.code ({ cls := "LockstepNet$Clusters", name := "choose", desc := "(LLockstepNet$Net;)V" } : Jvm.MethodName) prog_2_method_4_code (6 : Nat) (Option.none : Option Jvm.ClassFile.FieldType)) ∈ jT := jT_in 783 (by decide +kernel) (by decide +kernel)
theorem w784 : (Jvm.Cond.methodLink "LockstepNet$Clusters" (54 : Nat) ({ cls := "java/util/Arrays", name := "fill", desc := "([II)V" } : Jvm.MethodName)) ∈ jT := jT_in 784 (by decide +kernel) (by decide +kernel)
theorem w785 : (Jvm.Cond.methodLink "LockstepNet$Run" (103 : Nat) ({ cls := "java/util/Arrays", name := "fill", desc := "([II)V" } : Jvm.MethodName)) ∈ jT := jT_in 785 (by decide +kernel) (by decide +kernel)
theorem w793 : (Jvm.Cond.methodLink "LockstepNet" (161 : Nat) ({ cls := "LockstepNet", name := "needRun", desc := "()V" } : Jvm.MethodName)) ∈ jT := jT_in 793 (by decide +kernel) (by decide +kernel)
theorem w795 : (Jvm.Cond.instanceMethod ({ cls := "LockstepNet", name := "needRun", desc := "()V" } : Jvm.MethodName)) ∈ jT := jT_in 795 (by decide +kernel) (by decide +kernel)
theorem w796 : (Jvm.Cond.code ({ cls := "LockstepNet", name := "needRun", desc := "()V" } : Jvm.MethodName) prog_1_method_29_code (1 : Nat) (Option.none : Option Jvm.ClassFile.FieldType)) ∈ jT := jT_in 796 (by decide +kernel) (by decide +kernel)
theorem w806 : (Jvm.Cond.methodLink "LockstepNet" (169 : Nat) ({ cls := "LockstepNet$Run", name := "carryOn", desc := "(I)V" } : Jvm.MethodName)) ∈ jT := jT_in 806 (by decide +kernel) (by decide +kernel)
theorem w807 : (Jvm.Cond.instanceMethod ({ cls := "LockstepNet$Run", name := "carryOn", desc := "(I)V" } : Jvm.MethodName)) ∈ jT := jT_in 807 (by decide +kernel) (by decide +kernel)
theorem w808 : (Jvm.Cond.selects "LockstepNet$Run" ({ cls := "LockstepNet$Run", name := "carryOn", desc := "(I)V" } : Jvm.MethodName) ({ cls := "LockstepNet$Run", name := "carryOn", desc := "(I)V" } : Jvm.MethodName)) ∈ jT := jT_in 808 (by decide +kernel) (by decide +kernel)
theorem w809 : (Jvm.Cond.code ({ cls := "LockstepNet$Run", name := "carryOn", desc := "(I)V" } : Jvm.MethodName) prog_7_method_8_code (5 : Nat) (Option.none : Option Jvm.ClassFile.FieldType)) ∈ jT := jT_in 809 (by decide +kernel) (by decide +kernel)
theorem w810 : (Jvm.Cond.constant "LockstepNet$Run" (142 : Nat) (1000000 : Int32)) ∈ jT := jT_in 810 (by decide +kernel) (by decide +kernel)
theorem w811 : (Jvm.Cond.methodLink "LockstepNet$Run" (143 : Nat) ({ cls := "LockstepNet$Run", name := "wayOutOf", desc := "(I)I" } : Jvm.MethodName)) ∈ jT := jT_in 811 (by decide +kernel) (by decide +kernel)
theorem w813 : (Jvm.Cond.instanceMethod ({ cls := "LockstepNet$Run", name := "wayOutOf", desc := "(I)I" } : Jvm.MethodName)) ∈ jT := jT_in 813 (by decide +kernel) (by decide +kernel)
theorem w814 : (Jvm.Cond.code ({ cls := "LockstepNet$Run", name := "wayOutOf", desc := "(I)I" } : Jvm.MethodName) prog_7_method_5_code (3 : Nat) (Option.some Jvm.ClassFile.FieldType.int)) ∈ jT := jT_in 814 (by decide +kernel) (by decide +kernel)
theorem w815 : (Jvm.Cond.methodLink "LockstepNet$Run" (147 : Nat) ({ cls := "LockstepNet$Run", name := "nextDeed", desc := "(II)I" } : Jvm.MethodName)) ∈ jT := jT_in 815 (by decide +kernel) (by decide +kernel)
theorem w817 : (Jvm.Cond.instanceMethod ({ cls := "LockstepNet$Run", name := "nextDeed", desc := "(II)I" } : Jvm.MethodName)) ∈ jT := jT_in 817 (by decide +kernel) (by decide +kernel)
theorem w818 : (Jvm.Cond.code ({ cls := "LockstepNet$Run", name := "nextDeed", desc := "(II)I" } : Jvm.MethodName) prog_7_method_9_code (3 : Nat) (Option.some Jvm.ClassFile.FieldType.int)) ∈ jT := jT_in 818 (by decide +kernel) (by decide +kernel)
theorem w819 : (Jvm.Cond.methodLink "LockstepNet$Run" (160 : Nat) ({ cls := "LockstepNet$Run", name := "nextByNodes", desc := "(I)I" } : Jvm.MethodName)) ∈ jT := jT_in 819 (by decide +kernel) (by decide +kernel)
theorem w821 : (Jvm.Cond.instanceMethod ({ cls := "LockstepNet$Run", name := "nextByNodes", desc := "(I)I" } : Jvm.MethodName)) ∈ jT := jT_in 821 (by decide +kernel) (by decide +kernel)
theorem w822 : (Jvm.Cond.code ({ cls := "LockstepNet$Run", name := "nextByNodes", desc := "(I)I" } : Jvm.MethodName) prog_7_method_10_code (3 : Nat) (Option.some Jvm.ClassFile.FieldType.int)) ∈ jT := jT_in 822 (by decide +kernel) (by decide +kernel)
theorem w823 : (Jvm.Cond.methodLink "LockstepNet$Run" (169 : Nat) ({ cls := "LockstepNet$Run", name := "mayAnnounce", desc := "(I)Z" } : Jvm.MethodName)) ∈ jT := jT_in 823 (by decide +kernel) (by decide +kernel)
theorem w825 : (Jvm.Cond.instanceMethod ({ cls := "LockstepNet$Run", name := "mayAnnounce", desc := "(I)Z" } : Jvm.MethodName)) ∈ jT := jT_in 825 (by decide +kernel) (by decide +kernel)
theorem w826 : (Jvm.Cond.code ({ cls := "LockstepNet$Run", name := "mayAnnounce", desc := "(I)Z" } : Jvm.MethodName) prog_7_method_13_code (2 : Nat) (Option.some Jvm.ClassFile.FieldType.boolean)) ∈ jT := jT_in 826 (by decide +kernel) (by decide +kernel)
theorem w827 : (Jvm.Cond.methodLink "LockstepNet$Run" (173 : Nat) ({ cls := "LockstepNet$Run", name := "isIn", desc := "(II)Z" } : Jvm.MethodName)) ∈ jT := jT_in 827 (by decide +kernel) (by decide +kernel)
theorem w828 : (Jvm.Cond.static ({ cls := "LockstepNet$Run", name := "isIn", desc := "(II)Z" } : Jvm.MethodName)) ∈ jT := jT_in 828 (by decide +kernel) (by decide +kernel)
theorem w829 : (Jvm.Cond.code ({ cls := "LockstepNet$Run", name := "isIn", desc := "(II)Z" } : Jvm.MethodName) prog_7_method_15_code (2 : Nat) (Option.some Jvm.ClassFile.FieldType.boolean)) ∈ jT := jT_in 829 (by decide +kernel) (by decide +kernel)
theorem w830 : (Jvm.Cond.methodLink "LockstepNet$Run" (177 : Nat) ({ cls := "LockstepNet$Run", name := "heardBy", desc := "(II)I" } : Jvm.MethodName)) ∈ jT := jT_in 830 (by decide +kernel) (by decide +kernel)
theorem w832 : (Jvm.Cond.instanceMethod ({ cls := "LockstepNet$Run", name := "heardBy", desc := "(II)I" } : Jvm.MethodName)) ∈ jT := jT_in 832 (by decide +kernel) (by decide +kernel)
theorem w833 : (Jvm.Cond.code ({ cls := "LockstepNet$Run", name := "heardBy", desc := "(II)I" } : Jvm.MethodName) prog_7_method_14_code (3 : Nat) (Option.some Jvm.ClassFile.FieldType.int)) ∈ jT := jT_in 833 (by decide +kernel) (by decide +kernel)
theorem w834 : (Jvm.Cond.methodLink "LockstepNet$Run" (136 : Nat) ({ cls := "LockstepNet$Run", name := "boxOf", desc := "(II)I" } : Jvm.MethodName)) ∈ jT := jT_in 834 (by decide +kernel) (by decide +kernel)
theorem w835 : (Jvm.Cond.static ({ cls := "LockstepNet$Run", name := "boxOf", desc := "(II)I" } : Jvm.MethodName)) ∈ jT := jT_in 835 (by decide +kernel) (by decide +kernel)
theorem w836 : (Jvm.Cond.code ({ cls := "LockstepNet$Run", name := "boxOf", desc := "(II)I" } : Jvm.MethodName) prog_7_method_7_code (2 : Nat) (Option.some Jvm.ClassFile.FieldType.int)) ∈ jT := jT_in 836 (by decide +kernel) (by decide +kernel)
theorem w837 : (Jvm.Cond.methodLink "LockstepNet$Run" (163 : Nat) ({ cls := "LockstepNet$Run", name := "nextByTree", desc := "(I)I" } : Jvm.MethodName)) ∈ jT := jT_in 837 (by decide +kernel) (by decide +kernel)
theorem w839 : (Jvm.Cond.instanceMethod ({ cls := "LockstepNet$Run", name := "nextByTree", desc := "(I)I" } : Jvm.MethodName)) ∈ jT := jT_in 839 (by decide +kernel) (by decide +kernel)
theorem w840 : (Jvm.Cond.code ({ cls := "LockstepNet$Run", name := "nextByTree", desc := "(I)I" } : Jvm.MethodName) prog_7_method_11_code (2 : Nat) (Option.some Jvm.ClassFile.FieldType.int)) ∈ jT := jT_in 840 (by decide +kernel) (by decide +kernel)
theorem w841 : (Jvm.Cond.methodLink "LockstepNet$Run" (166 : Nat) ({ cls := "LockstepNet$Run", name := "nextByClusters", desc := "(I)I" } : Jvm.MethodName)) ∈ jT := jT_in 841 (by decide +kernel) (by decide +kernel)
theorem w843 : (Jvm.Cond.instanceMethod ({ cls := "LockstepNet$Run", name := "nextByClusters", desc := "(I)I" } : Jvm.MethodName)) ∈ jT := jT_in 843 (by decide +kernel) (by decide +kernel)
theorem w844 : (Jvm.Cond.code ({ cls := "LockstepNet$Run", name := "nextByClusters", desc := "(I)I" } : Jvm.MethodName) prog_7_method_12_code (4 : Nat) (Option.some Jvm.ClassFile.FieldType.int)) ∈ jT := jT_in 844 (by decide +kernel) (by decide +kernel)
theorem w845 : (Jvm.Cond.methodLink "LockstepNet$Run" (153 : Nat) ({ cls := "LockstepNet$Run", name := "sendFor", desc := "(IILLockstepNet$Tree;)V" } : Jvm.MethodName)) ∈ jT := jT_in 845 (by decide +kernel) (by decide +kernel)
theorem w847 : (Jvm.Cond.instanceMethod ({ cls := "LockstepNet$Run", name := "sendFor", desc := "(IILLockstepNet$Tree;)V" } : Jvm.MethodName)) ∈ jT := jT_in 847 (by decide +kernel) (by decide +kernel)
theorem w848 : (Jvm.Cond.code ({ cls := "LockstepNet$Run", name := "sendFor", desc := "(IILLockstepNet$Tree;)V" } : Jvm.MethodName) prog_7_method_16_code (4 : Nat) (Option.none : Option Jvm.ClassFile.FieldType)) ∈ jT := jT_in 848 (by decide +kernel) (by decide +kernel)
theorem w849 : (Jvm.Cond.methodLink "LockstepNet$Run" (192 : Nat) ({ cls := "LockstepNet$Run", name := "sendByPorts", desc := "(III)V" } : Jvm.MethodName)) ∈ jT := jT_in 849 (by decide +kernel) (by decide +kernel)
theorem w851 : (Jvm.Cond.instanceMethod ({ cls := "LockstepNet$Run", name := "sendByPorts", desc := "(III)V" } : Jvm.MethodName)) ∈ jT := jT_in 851 (by decide +kernel) (by decide +kernel)
theorem w852 : (Jvm.Cond.code ({ cls := "LockstepNet$Run", name := "sendByPorts", desc := "(III)V" } : Jvm.MethodName) prog_7_method_17_code (6 : Nat) (Option.none : Option Jvm.ClassFile.FieldType)) ∈ jT := jT_in 852 (by decide +kernel) (by decide +kernel)
theorem w853 : (Jvm.Cond.methodLink "LockstepNet$Run" (132 : Nat) ({ cls := "LockstepNet$Post", name := "send", desc := "(IIIII)V" } : Jvm.MethodName)) ∈ jT := jT_in 853 (by decide +kernel) (by decide +kernel)
theorem w854 : (Jvm.Cond.instanceMethod ({ cls := "LockstepNet$Post", name := "send", desc := "(IIIII)V" } : Jvm.MethodName)) ∈ jT := jT_in 854 (by decide +kernel) (by decide +kernel)
theorem w855 : (Jvm.Cond.selects "LockstepNet$Post" ({ cls := "LockstepNet$Post", name := "send", desc := "(IIIII)V" } : Jvm.MethodName) ({ cls := "LockstepNet$Post", name := "send", desc := "(IIIII)V" } : Jvm.MethodName)) ∈ jT := jT_in 855 (by decide +kernel) (by decide +kernel)
theorem w856 : (Jvm.Cond.code ({ cls := "LockstepNet$Post", name := "send", desc := "(IIIII)V" } : Jvm.MethodName) prog_5_method_3_code (6 : Nat) (Option.none : Option Jvm.ClassFile.FieldType)) ∈ jT := jT_in 856 (by decide +kernel) (by decide +kernel)
theorem w857 : (Jvm.Cond.methodLink "LockstepNet$Run" (196 : Nat) ({ cls := "LockstepNet$Run", name := "sendByNumbers", desc := "(III)V" } : Jvm.MethodName)) ∈ jT := jT_in 857 (by decide +kernel) (by decide +kernel)
theorem w859 : (Jvm.Cond.instanceMethod ({ cls := "LockstepNet$Run", name := "sendByNumbers", desc := "(III)V" } : Jvm.MethodName)) ∈ jT := jT_in 859 (by decide +kernel) (by decide +kernel)
theorem w860 : (Jvm.Cond.code ({ cls := "LockstepNet$Run", name := "sendByNumbers", desc := "(III)V" } : Jvm.MethodName) prog_7_method_18_code (5 : Nat) (Option.none : Option Jvm.ClassFile.FieldType)) ∈ jT := jT_in 860 (by decide +kernel) (by decide +kernel)
theorem w861 : (Jvm.Cond.methodLink "LockstepNet$Run" (157 : Nat) ({ cls := "LockstepNet$Run", name := "enterNextRound", desc := "(I)V" } : Jvm.MethodName)) ∈ jT := jT_in 861 (by decide +kernel) (by decide +kernel)
theorem w863 : (Jvm.Cond.instanceMethod ({ cls := "LockstepNet$Run", name := "enterNextRound", desc := "(I)V" } : Jvm.MethodName)) ∈ jT := jT_in 863 (by decide +kernel) (by decide +kernel)
theorem w864 : (Jvm.Cond.code ({ cls := "LockstepNet$Run", name := "enterNextRound", desc := "(I)V" } : Jvm.MethodName) prog_7_method_19_code (3 : Nat) (Option.none : Option Jvm.ClassFile.FieldType)) ∈ jT := jT_in 864 (by decide +kernel) (by decide +kernel)
theorem w865 : (Jvm.Cond.methodLink "LockstepNet$Run" (205 : Nat) ({ cls := "LockstepNet$Run", name := "forgetRound", desc := "(I)V" } : Jvm.MethodName)) ∈ jT := jT_in 865 (by decide +kernel) (by decide +kernel)
theorem w867 : (Jvm.Cond.instanceMethod ({ cls := "LockstepNet$Run", name := "forgetRound", desc := "(I)V" } : Jvm.MethodName)) ∈ jT := jT_in 867 (by decide +kernel) (by decide +kernel)
theorem w868 : (Jvm.Cond.code ({ cls := "LockstepNet$Run", name := "forgetRound", desc := "(I)V" } : Jvm.MethodName) prog_7_method_20_code (4 : Nat) (Option.none : Option Jvm.ClassFile.FieldType)) ∈ jT := jT_in 868 (by decide +kernel) (by decide +kernel)
theorem w869 : (Jvm.Cond.methodLink "LockstepNet$Run" (208 : Nat) ({ cls := "LockstepNet$Machine", name := "doRound", desc := "(II)V" } : Jvm.MethodName)) ∈ jT := jT_in 869 (by decide +kernel) (by decide +kernel)
theorem w870 : (Jvm.Cond.methodLink "LockstepNet$Run" (212 : Nat) ({ cls := "LockstepNet$Machine", name := "goesBy", desc := "(I)Z" } : Jvm.MethodName)) ∈ jT := jT_in 870 (by decide +kernel) (by decide +kernel)
theorem w871 : (Jvm.Cond.methodLink "LockstepNet$Run" (221 : Nat) ({ cls := "java/lang/Integer", name := "bitCount", desc := "(I)I" } : Jvm.MethodName)) ∈ jT := jT_in 871 (by decide +kernel) (by decide +kernel)
theorem w872 : (Jvm.Cond.methodLink "LockstepNet$Run" (226 : Nat) ({ cls := "LockstepNet$Run", name := "noteWidest", desc := "(I)V" } : Jvm.MethodName)) ∈ jT := jT_in 872 (by decide +kernel) (by decide +kernel)
theorem w874 : (Jvm.Cond.instanceMethod ({ cls := "LockstepNet$Run", name := "noteWidest", desc := "(I)V" } : Jvm.MethodName)) ∈ jT := jT_in 874 (by decide +kernel) (by decide +kernel)
theorem w875 : (Jvm.Cond.code ({ cls := "LockstepNet$Run", name := "noteWidest", desc := "(I)V" } : Jvm.MethodName) prog_7_method_21_code (3 : Nat) (Option.none : Option Jvm.ClassFile.FieldType)) ∈ jT := jT_in 875 (by decide +kernel) (by decide +kernel)
theorem w876 : (Jvm.Cond.methodLink "LockstepNet$Run" (115 : Nat) ({ cls := "java/lang/Math", name := "max", desc := "(II)I" } : Jvm.MethodName)) ∈ jT := jT_in 876 (by decide +kernel) (by decide +kernel)
theorem w877 : (Jvm.Cond.static ({ cls := "java/lang/Math", name := "max", desc := "(II)I" } : Jvm.MethodName)) ∈ jT := jT_in 877 (by decide +kernel) (by decide +kernel)
theorem w878 : (Jvm.Cond.code ({ cls := "java/lang/Math", name := "max", desc := "(II)I" } : Jvm.MethodName) prog_17_method_65_code (2 : Nat) (Option.some Jvm.ClassFile.FieldType.int)) ∈ jT := jT_in 878 (by decide +kernel) (by decide +kernel)
theorem w886 : (Jvm.Cond.methodLink "LockstepNet" (179 : Nat) ({ cls := "LockstepNet", name := "needLetter", desc := "(I)V" } : Jvm.MethodName)) ∈ jT := jT_in 886 (by decide +kernel) (by decide +kernel)
theorem w888 : (Jvm.Cond.instanceMethod ({ cls := "LockstepNet", name := "needLetter", desc := "(I)V" } : Jvm.MethodName)) ∈ jT := jT_in 888 (by decide +kernel) (by decide +kernel)
theorem w889 : (Jvm.Cond.code ({ cls := "LockstepNet", name := "needLetter", desc := "(I)V" } : Jvm.MethodName) prog_1_method_27_code (2 : Nat) (Option.none : Option Jvm.ClassFile.FieldType)) ∈ jT := jT_in 889 (by decide +kernel) (by decide +kernel)
theorem w899 : (Jvm.Cond.methodLink "LockstepNet" (191 : Nat) ({ cls := "LockstepNet$Run", name := "handOver", desc := "(I)I" } : Jvm.MethodName)) ∈ jT := jT_in 899 (by decide +kernel) (by decide +kernel)
theorem w900 : (Jvm.Cond.instanceMethod ({ cls := "LockstepNet$Run", name := "handOver", desc := "(I)I" } : Jvm.MethodName)) ∈ jT := jT_in 900 (by decide +kernel) (by decide +kernel)
theorem w901 : (Jvm.Cond.selects "LockstepNet$Run" ({ cls := "LockstepNet$Run", name := "handOver", desc := "(I)I" } : Jvm.MethodName) ({ cls := "LockstepNet$Run", name := "handOver", desc := "(I)I" } : Jvm.MethodName)) ∈ jT := jT_in 901 (by decide +kernel) (by decide +kernel)
theorem w902 : (Jvm.Cond.code ({ cls := "LockstepNet$Run", name := "handOver", desc := "(I)I" } : Jvm.MethodName) prog_7_method_6_code (7 : Nat) (Option.some Jvm.ClassFile.FieldType.int)) ∈ jT := jT_in 902 (by decide +kernel) (by decide +kernel)
theorem w903 : (Jvm.Cond.methodLink "LockstepNet$Run" (124 : Nat) ({ cls := "LockstepNet$Post", name := "remove", desc := "(I)V" } : Jvm.MethodName)) ∈ jT := jT_in 903 (by decide +kernel) (by decide +kernel)
theorem w904 : (Jvm.Cond.instanceMethod ({ cls := "LockstepNet$Post", name := "remove", desc := "(I)V" } : Jvm.MethodName)) ∈ jT := jT_in 904 (by decide +kernel) (by decide +kernel)
theorem w905 : (Jvm.Cond.selects "LockstepNet$Post" ({ cls := "LockstepNet$Post", name := "remove", desc := "(I)V" } : Jvm.MethodName) ({ cls := "LockstepNet$Post", name := "remove", desc := "(I)V" } : Jvm.MethodName)) ∈ jT := jT_in 905 (by decide +kernel) (by decide +kernel)
theorem w906 : (Jvm.Cond.code ({ cls := "LockstepNet$Post", name := "remove", desc := "(I)V" } : Jvm.MethodName) prog_5_method_4_code (3 : Nat) (Option.none : Option Jvm.ClassFile.FieldType)) ∈ jT := jT_in 906 (by decide +kernel) (by decide +kernel)
theorem w907 : (Jvm.Cond.methodLink "LockstepNet$Post" (30 : Nat) ({ cls := "java/lang/System", name := "arraycopy", desc := "(Ljava/lang/Object;ILjava/lang/Object;II)V" } : Jvm.MethodName)) ∈ jT := jT_in 907 (by decide +kernel) (by decide +kernel)
theorem w908 : (Jvm.Cond.methodLink "LockstepNet$Run" (128 : Nat) ({ cls := "LockstepNet$Machine", name := "accept", desc := "(IIII)V" } : Jvm.MethodName)) ∈ jT := jT_in 908 (by decide +kernel) (by decide +kernel)
theorem w909 : (Jvm.Cond.methodLink "LockstepNet$Run" (139 : Nat) ({ cls := "LockstepNet$Run", name := "carryOn", desc := "(I)V" } : Jvm.MethodName)) ∈ jT := jT_in 909 (by decide +kernel) (by decide +kernel)
theorem w918 : (Jvm.Cond.constant "LockstepNet" (197 : Nat) (1103515245 : Int32)) ∈ jT := jT_in 918 (by decide +kernel) (by decide +kernel)
theorem w928 : (Jvm.Cond.methodLink "LockstepNet" (205 : Nat) ({ cls := "LockstepNet$Run", name := "changeWay", desc := "(I)I" } : Jvm.MethodName)) ∈ jT := jT_in 928 (by decide +kernel) (by decide +kernel)
theorem w929 : (Jvm.Cond.instanceMethod ({ cls := "LockstepNet$Run", name := "changeWay", desc := "(I)I" } : Jvm.MethodName)) ∈ jT := jT_in 929 (by decide +kernel) (by decide +kernel)
theorem w930 : (Jvm.Cond.selects "LockstepNet$Run" ({ cls := "LockstepNet$Run", name := "changeWay", desc := "(I)I" } : Jvm.MethodName) ({ cls := "LockstepNet$Run", name := "changeWay", desc := "(I)I" } : Jvm.MethodName)) ∈ jT := jT_in 930 (by decide +kernel) (by decide +kernel)
theorem w931 : (Jvm.Cond.code ({ cls := "LockstepNet$Run", name := "changeWay", desc := "(I)I" } : Jvm.MethodName) prog_7_method_3_code (2 : Nat) (Option.some Jvm.ClassFile.FieldType.int)) ∈ jT := jT_in 931 (by decide +kernel) (by decide +kernel)
theorem w932 : (Jvm.Cond.methodLink "LockstepNet$Run" (109 : Nat) ({ cls := "LockstepNet$Run", name := "greatestRound", desc := "()I" } : Jvm.MethodName)) ∈ jT := jT_in 932 (by decide +kernel) (by decide +kernel)
theorem w934 : (Jvm.Cond.instanceMethod ({ cls := "LockstepNet$Run", name := "greatestRound", desc := "()I" } : Jvm.MethodName)) ∈ jT := jT_in 934 (by decide +kernel) (by decide +kernel)
theorem w935 : (Jvm.Cond.code ({ cls := "LockstepNet$Run", name := "greatestRound", desc := "()I" } : Jvm.MethodName) prog_7_method_4_code (3 : Nat) (Option.some Jvm.ClassFile.FieldType.int)) ∈ jT := jT_in 935 (by decide +kernel) (by decide +kernel)
theorem w965 : (Jvm.Cond.methodLink "LockstepNet" (242 : Nat) ({ cls := "LockstepNet", name := "needCluster", desc := "(I)V" } : Jvm.MethodName)) ∈ jT := jT_in 965 (by decide +kernel) (by decide +kernel)
theorem w967 : (Jvm.Cond.instanceMethod ({ cls := "LockstepNet", name := "needCluster", desc := "(I)V" } : Jvm.MethodName)) ∈ jT := jT_in 967 (by decide +kernel) (by decide +kernel)
theorem w968 : (Jvm.Cond.code ({ cls := "LockstepNet", name := "needCluster", desc := "(I)V" } : Jvm.MethodName) prog_1_method_28_code (2 : Nat) (Option.none : Option Jvm.ClassFile.FieldType)) ∈ jT := jT_in 968 (by decide +kernel) (by decide +kernel)
theorem w984 : (Jvm.Cond.fieldLink "LockstepNetModel" (113 : Nat) "LockstepNetModel" "thrown" "I") ∈ jT := jT_in 984 (by decide +kernel) (by decide +kernel)
theorem w985 : (Jvm.Cond.fieldLink "LockstepNetModel" (117 : Nat) "LockstepNetModel" "n" "I") ∈ jT := jT_in 985 (by decide +kernel) (by decide +kernel)
theorem w986 : (Jvm.Cond.fieldLink "LockstepNetModel" (124 : Nat) "LockstepNetModel" "links" "I") ∈ jT := jT_in 986 (by decide +kernel) (by decide +kernel)
theorem w987 : (Jvm.Cond.fieldLink "LockstepNetModel" (7 : Nat) "LockstepNetModel" "la" "[I") ∈ jT := jT_in 987 (by decide +kernel) (by decide +kernel)
theorem w988 : (Jvm.Cond.fieldLink "LockstepNetModel" (13 : Nat) "LockstepNetModel" "lb" "[I") ∈ jT := jT_in 988 (by decide +kernel) (by decide +kernel)
theorem w989 : (Jvm.Cond.fieldLink "LockstepNetModel" (16 : Nat) "LockstepNetModel" "ports" "[I") ∈ jT := jT_in 989 (by decide +kernel) (by decide +kernel)
theorem w990 : (Jvm.Cond.fieldLink "LockstepNetModel" (19 : Nat) "LockstepNetModel" "portLink" "[I") ∈ jT := jT_in 990 (by decide +kernel) (by decide +kernel)
theorem w991 : (Jvm.Cond.fieldLink "LockstepNetModel" (22 : Nat) "LockstepNetModel" "inputs" "[I") ∈ jT := jT_in 991 (by decide +kernel) (by decide +kernel)
theorem w992 : (Jvm.Cond.fieldLink "LockstepNetModel" (25 : Nat) "LockstepNetModel" "plain" "[I") ∈ jT := jT_in 992 (by decide +kernel) (by decide +kernel)
theorem w993 : (Jvm.Cond.fieldLink "LockstepNetModel" (139 : Nat) "LockstepNetModel" "words" "I") ∈ jT := jT_in 993 (by decide +kernel) (by decide +kernel)
theorem w994 : (Jvm.Cond.fieldLink "LockstepNetModel" (28 : Nat) "LockstepNetModel" "word" "[I") ∈ jT := jT_in 994 (by decide +kernel) (by decide +kernel)
theorem w995 : (Jvm.Cond.fieldLink "LockstepNetModel" (31 : Nat) "LockstepNetModel" "reg" "[I") ∈ jT := jT_in 995 (by decide +kernel) (by decide +kernel)
theorem w996 : (Jvm.Cond.fieldLink "LockstepNetModel" (34 : Nat) "LockstepNetModel" "got" "[Z") ∈ jT := jT_in 996 (by decide +kernel) (by decide +kernel)
theorem w997 : (Jvm.Cond.fieldLink "LockstepNetModel" (38 : Nat) "LockstepNetModel" "took" "[I") ∈ jT := jT_in 997 (by decide +kernel) (by decide +kernel)
theorem w998 : (Jvm.Cond.fieldLink "LockstepNetModel" (41 : Nat) "LockstepNetModel" "sends" "[Z") ∈ jT := jT_in 998 (by decide +kernel) (by decide +kernel)
theorem w999 : (Jvm.Cond.fieldLink "LockstepNetModel" (44 : Nat) "LockstepNetModel" "sent" "[I") ∈ jT := jT_in 999 (by decide +kernel) (by decide +kernel)
theorem w1000 : (Jvm.Cond.fieldLink "LockstepNetModel" (47 : Nat) "LockstepNetModel" "isThere" "[Z") ∈ jT := jT_in 1000 (by decide +kernel) (by decide +kernel)
theorem w1001 : (Jvm.Cond.fieldLink "LockstepNetModel" (50 : Nat) "LockstepNetModel" "there" "[I") ∈ jT := jT_in 1001 (by decide +kernel) (by decide +kernel)
theorem w1002 : (Jvm.Cond.fieldLink "LockstepNetModel" (120 : Nat) "LockstepNetModel" "isRun" "Z") ∈ jT := jT_in 1002 (by decide +kernel) (by decide +kernel)
theorem w1003 : (Jvm.Cond.fieldLink "LockstepNetModel" (237 : Nat) "LockstepNetModel" "stop" "I") ∈ jT := jT_in 1003 (by decide +kernel) (by decide +kernel)
theorem w1004 : (Jvm.Cond.fieldLink "LockstepNetModel" (240 : Nat) "LockstepNetModel" "switches" "I") ∈ jT := jT_in 1004 (by decide +kernel) (by decide +kernel)
theorem w1005 : (Jvm.Cond.fieldLink "LockstepNetModel" (53 : Nat) "LockstepNetModel" "border" "[I") ∈ jT := jT_in 1005 (by decide +kernel) (by decide +kernel)
theorem w1006 : (Jvm.Cond.fieldLink "LockstepNetModel" (56 : Nat) "LockstepNetModel" "wayFrom" "[I") ∈ jT := jT_in 1006 (by decide +kernel) (by decide +kernel)
theorem w1007 : (Jvm.Cond.fieldLink "LockstepNetModel" (59 : Nat) "LockstepNetModel" "round" "[I") ∈ jT := jT_in 1007 (by decide +kernel) (by decide +kernel)
theorem w1008 : (Jvm.Cond.fieldLink "LockstepNetModel" (62 : Nat) "LockstepNetModel" "regs" "[I") ∈ jT := jT_in 1008 (by decide +kernel) (by decide +kernel)
theorem w1009 : (Jvm.Cond.fieldLink "LockstepNetModel" (65 : Nat) "LockstepNetModel" "open" "[I") ∈ jT := jT_in 1009 (by decide +kernel) (by decide +kernel)
theorem w1010 : (Jvm.Cond.fieldLink "LockstepNetModel" (68 : Nat) "LockstepNetModel" "saidSafe" "[Z") ∈ jT := jT_in 1010 (by decide +kernel) (by decide +kernel)
theorem w1011 : (Jvm.Cond.fieldLink "LockstepNetModel" (71 : Nat) "LockstepNetModel" "saidAll" "[Z") ∈ jT := jT_in 1011 (by decide +kernel) (by decide +kernel)
theorem w1012 : (Jvm.Cond.fieldLink "LockstepNetModel" (74 : Nat) "LockstepNetModel" "told" "[Z") ∈ jT := jT_in 1012 (by decide +kernel) (by decide +kernel)
theorem w1013 : (Jvm.Cond.fieldLink "LockstepNetModel" (77 : Nat) "LockstepNetModel" "came" "[I") ∈ jT := jT_in 1013 (by decide +kernel) (by decide +kernel)
theorem w1014 : (Jvm.Cond.fieldLink "LockstepNetModel" (80 : Nat) "LockstepNetModel" "parent" "[I") ∈ jT := jT_in 1014 (by decide +kernel) (by decide +kernel)
theorem w1015 : (Jvm.Cond.fieldLink "LockstepNetModel" (83 : Nat) "LockstepNetModel" "depth" "[I") ∈ jT := jT_in 1015 (by decide +kernel) (by decide +kernel)
theorem w1016 : (Jvm.Cond.fieldLink "LockstepNetModel" (215 : Nat) "LockstepNetModel" "clusters" "I") ∈ jT := jT_in 1016 (by decide +kernel) (by decide +kernel)
theorem w1017 : (Jvm.Cond.fieldLink "LockstepNetModel" (86 : Nat) "LockstepNetModel" "cluster" "[I") ∈ jT := jT_in 1017 (by decide +kernel) (by decide +kernel)
theorem w1018 : (Jvm.Cond.fieldLink "LockstepNetModel" (89 : Nat) "LockstepNetModel" "clusterParent" "[I") ∈ jT := jT_in 1018 (by decide +kernel) (by decide +kernel)
theorem w1019 : (Jvm.Cond.fieldLink "LockstepNetModel" (92 : Nat) "LockstepNetModel" "clusterDepth" "[I") ∈ jT := jT_in 1019 (by decide +kernel) (by decide +kernel)
theorem w1020 : (Jvm.Cond.fieldLink "LockstepNetModel" (95 : Nat) "LockstepNetModel" "isChosen" "[Z") ∈ jT := jT_in 1020 (by decide +kernel) (by decide +kernel)
theorem w1021 : (Jvm.Cond.fieldLink "LockstepNetModel" (98 : Nat) "LockstepNetModel" "layer" "[I") ∈ jT := jT_in 1021 (by decide +kernel) (by decide +kernel)
theorem w1022 : (Jvm.Cond.fieldLink "LockstepNetModel" (243 : Nat) "LockstepNetModel" "under" "I") ∈ jT := jT_in 1022 (by decide +kernel) (by decide +kernel)
theorem w1023 : (Jvm.Cond.fieldLink "LockstepNetModel" (101 : Nat) "LockstepNetModel" "letter" "[I") ∈ jT := jT_in 1023 (by decide +kernel) (by decide +kernel)
theorem w1024 : (Jvm.Cond.fieldLink "LockstepNetModel" (104 : Nat) "LockstepNetModel" "counts" "[I") ∈ jT := jT_in 1024 (by decide +kernel) (by decide +kernel)
theorem w1025 : (Jvm.Cond.fieldLink "LockstepNetModel" (246 : Nat) "LockstepNetModel" "apart" "I") ∈ jT := jT_in 1025 (by decide +kernel) (by decide +kernel)
theorem w1026 : (Jvm.Cond.fieldLink "LockstepNetModel" (107 : Nat) "LockstepNetModel" "plainThere" "[Z") ∈ jT := jT_in 1026 (by decide +kernel) (by decide +kernel)
theorem w1027 : (Jvm.Cond.fieldLink "LockstepNetModel" (110 : Nat) "LockstepNetModel" "plainLetter" "[I") ∈ jT := jT_in 1027 (by decide +kernel) (by decide +kernel)
theorem w1130 : (Jvm.Cond.methodLink "LockstepNetModel" (127 : Nat) ({ cls := "LockstepNetModel", name := "isNode", desc := "(I)Z" } : Jvm.MethodName)) ∈ jT := jT_in 1130 (by decide +kernel) (by decide +kernel)
theorem w1132 : (Jvm.Cond.instanceMethod ({ cls := "LockstepNetModel", name := "isNode", desc := "(I)Z" } : Jvm.MethodName)) ∈ jT := jT_in 1132 (by decide +kernel) (by decide +kernel)
theorem w1133 : (Jvm.Cond.code ({ cls := "LockstepNetModel", name := "isNode", desc := "(I)Z" } : Jvm.MethodName) prog_10_method_3_code (2 : Nat) (Option.some Jvm.ClassFile.FieldType.boolean)) ∈ jT := jT_in 1133 (by decide +kernel) (by decide +kernel)
theorem w1134 : (Jvm.Cond.methodLink "LockstepNetModel" (131 : Nat) ({ cls := "LockstepNetModel", name := "linkOf", desc := "(II)I" } : Jvm.MethodName)) ∈ jT := jT_in 1134 (by decide +kernel) (by decide +kernel)
theorem w1136 : (Jvm.Cond.instanceMethod ({ cls := "LockstepNetModel", name := "linkOf", desc := "(II)I" } : Jvm.MethodName)) ∈ jT := jT_in 1136 (by decide +kernel) (by decide +kernel)
theorem w1137 : (Jvm.Cond.code ({ cls := "LockstepNetModel", name := "linkOf", desc := "(II)I" } : Jvm.MethodName) prog_10_method_5_code (5 : Nat) (Option.some Jvm.ClassFile.FieldType.int)) ∈ jT := jT_in 1137 (by decide +kernel) (by decide +kernel)
theorem w1138 : (Jvm.Cond.methodLink "LockstepNetModel" (135 : Nat) ({ cls := "LockstepNetModel", name := "addPort", desc := "(II)V" } : Jvm.MethodName)) ∈ jT := jT_in 1138 (by decide +kernel) (by decide +kernel)
theorem w1140 : (Jvm.Cond.instanceMethod ({ cls := "LockstepNetModel", name := "addPort", desc := "(II)V" } : Jvm.MethodName)) ∈ jT := jT_in 1140 (by decide +kernel) (by decide +kernel)
theorem w1141 : (Jvm.Cond.code ({ cls := "LockstepNetModel", name := "addPort", desc := "(II)V" } : Jvm.MethodName) prog_10_method_6_code (3 : Nat) (Option.none : Option Jvm.ClassFile.FieldType)) ∈ jT := jT_in 1141 (by decide +kernel) (by decide +kernel)
theorem w1146 : (Jvm.Cond.methodLink "LockstepNetModel" (142 : Nat) ({ cls := "LockstepNetModel", name := "put", desc := "(IIIII)V" } : Jvm.MethodName)) ∈ jT := jT_in 1146 (by decide +kernel) (by decide +kernel)
theorem w1148 : (Jvm.Cond.instanceMethod ({ cls := "LockstepNetModel", name := "put", desc := "(IIIII)V" } : Jvm.MethodName)) ∈ jT := jT_in 1148 (by decide +kernel) (by decide +kernel)
theorem w1149 : (Jvm.Cond.code ({ cls := "LockstepNetModel", name := "put", desc := "(IIIII)V" } : Jvm.MethodName) prog_10_method_11_code (6 : Nat) (Option.none : Option Jvm.ClassFile.FieldType)) ∈ jT := jT_in 1149 (by decide +kernel) (by decide +kernel)
theorem w1154 : (Jvm.Cond.methodLink "LockstepNetModel" (150 : Nat) ({ cls := "LockstepNetModel", name := "layers", desc := "()V" } : Jvm.MethodName)) ∈ jT := jT_in 1154 (by decide +kernel) (by decide +kernel)
theorem w1156 : (Jvm.Cond.instanceMethod ({ cls := "LockstepNetModel", name := "layers", desc := "()V" } : Jvm.MethodName)) ∈ jT := jT_in 1156 (by decide +kernel) (by decide +kernel)
theorem w1157 : (Jvm.Cond.code ({ cls := "LockstepNetModel", name := "layers", desc := "()V" } : Jvm.MethodName) prog_10_method_13_code (1 : Nat) (Option.none : Option Jvm.ClassFile.FieldType)) ∈ jT := jT_in 1157 (by decide +kernel) (by decide +kernel)
theorem w1158 : (Jvm.Cond.methodLink "LockstepNetModel" (146 : Nat) ({ cls := "LockstepNetModel", name := "add", desc := "(IIII)V" } : Jvm.MethodName)) ∈ jT := jT_in 1158 (by decide +kernel) (by decide +kernel)
theorem w1160 : (Jvm.Cond.instanceMethod ({ cls := "LockstepNetModel", name := "add", desc := "(IIII)V" } : Jvm.MethodName)) ∈ jT := jT_in 1160 (by decide +kernel) (by decide +kernel)
theorem w1161 : (Jvm.Cond.code ({ cls := "LockstepNetModel", name := "add", desc := "(IIII)V" } : Jvm.MethodName) prog_10_method_12_code (5 : Nat) (Option.none : Option Jvm.ClassFile.FieldType)) ∈ jT := jT_in 1161 (by decide +kernel) (by decide +kernel)
theorem w1162 : (Jvm.Cond.methodLink "LockstepNetModel" (153 : Nat) ({ cls := "LockstepNetModel", name := "leasts", desc := "()V" } : Jvm.MethodName)) ∈ jT := jT_in 1162 (by decide +kernel) (by decide +kernel)
theorem w1164 : (Jvm.Cond.instanceMethod ({ cls := "LockstepNetModel", name := "leasts", desc := "()V" } : Jvm.MethodName)) ∈ jT := jT_in 1164 (by decide +kernel) (by decide +kernel)
theorem w1165 : (Jvm.Cond.code ({ cls := "LockstepNetModel", name := "leasts", desc := "()V" } : Jvm.MethodName) prog_10_method_14_code (1 : Nat) (Option.none : Option Jvm.ClassFile.FieldType)) ∈ jT := jT_in 1165 (by decide +kernel) (by decide +kernel)
theorem w1166 : (Jvm.Cond.methodLink "LockstepNetModel" (156 : Nat) ({ cls := "LockstepNetModel", name := "cells", desc := "()V" } : Jvm.MethodName)) ∈ jT := jT_in 1166 (by decide +kernel) (by decide +kernel)
theorem w1168 : (Jvm.Cond.instanceMethod ({ cls := "LockstepNetModel", name := "cells", desc := "()V" } : Jvm.MethodName)) ∈ jT := jT_in 1168 (by decide +kernel) (by decide +kernel)
theorem w1169 : (Jvm.Cond.code ({ cls := "LockstepNetModel", name := "cells", desc := "()V" } : Jvm.MethodName) prog_10_method_15_code (1 : Nat) (Option.none : Option Jvm.ClassFile.FieldType)) ∈ jT := jT_in 1169 (by decide +kernel) (by decide +kernel)
theorem w1170 : (Jvm.Cond.methodLink "LockstepNetModel" (159 : Nat) ({ cls := "LockstepNetModel", name := "walks", desc := "()V" } : Jvm.MethodName)) ∈ jT := jT_in 1170 (by decide +kernel) (by decide +kernel)
theorem w1172 : (Jvm.Cond.instanceMethod ({ cls := "LockstepNetModel", name := "walks", desc := "()V" } : Jvm.MethodName)) ∈ jT := jT_in 1172 (by decide +kernel) (by decide +kernel)
theorem w1173 : (Jvm.Cond.code ({ cls := "LockstepNetModel", name := "walks", desc := "()V" } : Jvm.MethodName) prog_10_method_16_code (1 : Nat) (Option.none : Option Jvm.ClassFile.FieldType)) ∈ jT := jT_in 1173 (by decide +kernel) (by decide +kernel)
theorem w1174 : (Jvm.Cond.methodLink "LockstepNetModel" (162 : Nat) ({ cls := "LockstepNetModel", name := "colours", desc := "()V" } : Jvm.MethodName)) ∈ jT := jT_in 1174 (by decide +kernel) (by decide +kernel)
theorem w1176 : (Jvm.Cond.instanceMethod ({ cls := "LockstepNetModel", name := "colours", desc := "()V" } : Jvm.MethodName)) ∈ jT := jT_in 1176 (by decide +kernel) (by decide +kernel)
theorem w1177 : (Jvm.Cond.code ({ cls := "LockstepNetModel", name := "colours", desc := "()V" } : Jvm.MethodName) prog_10_method_17_code (1 : Nat) (Option.none : Option Jvm.ClassFile.FieldType)) ∈ jT := jT_in 1177 (by decide +kernel) (by decide +kernel)
theorem w1186 : (Jvm.Cond.methodLink "LockstepNetModel" (185 : Nat) ({ cls := "LockstepNetModel", name := "wrongWord", desc := "()I" } : Jvm.MethodName)) ∈ jT := jT_in 1186 (by decide +kernel) (by decide +kernel)
theorem w1188 : (Jvm.Cond.instanceMethod ({ cls := "LockstepNetModel", name := "wrongWord", desc := "()I" } : Jvm.MethodName)) ∈ jT := jT_in 1188 (by decide +kernel) (by decide +kernel)
theorem w1189 : (Jvm.Cond.code ({ cls := "LockstepNetModel", name := "wrongWord", desc := "()I" } : Jvm.MethodName) prog_10_method_26_code (2 : Nat) (Option.some Jvm.ClassFile.FieldType.int)) ∈ jT := jT_in 1189 (by decide +kernel) (by decide +kernel)
theorem w1190 : (Jvm.Cond.methodLink "LockstepNetModel" (182 : Nat) ({ cls := "LockstepNetModel", name := "isWrong", desc := "(I)Z" } : Jvm.MethodName)) ∈ jT := jT_in 1190 (by decide +kernel) (by decide +kernel)
theorem w1192 : (Jvm.Cond.instanceMethod ({ cls := "LockstepNetModel", name := "isWrong", desc := "(I)Z" } : Jvm.MethodName)) ∈ jT := jT_in 1192 (by decide +kernel) (by decide +kernel)
theorem w1193 : (Jvm.Cond.code ({ cls := "LockstepNetModel", name := "isWrong", desc := "(I)Z" } : Jvm.MethodName) prog_10_method_25_code (7 : Nat) (Option.some Jvm.ClassFile.FieldType.boolean)) ∈ jT := jT_in 1193 (by decide +kernel) (by decide +kernel)
theorem w1194 : (Jvm.Cond.methodLink "LockstepNetModel" (165 : Nat) ({ cls := "LockstepNetModel", name := "lastOfEach", desc := "(I)I" } : Jvm.MethodName)) ∈ jT := jT_in 1194 (by decide +kernel) (by decide +kernel)
theorem w1196 : (Jvm.Cond.instanceMethod ({ cls := "LockstepNetModel", name := "lastOfEach", desc := "(I)I" } : Jvm.MethodName)) ∈ jT := jT_in 1196 (by decide +kernel) (by decide +kernel)
theorem w1197 : (Jvm.Cond.code ({ cls := "LockstepNetModel", name := "lastOfEach", desc := "(I)I" } : Jvm.MethodName) prog_10_method_23_code (5 : Nat) (Option.some Jvm.ClassFile.FieldType.int)) ∈ jT := jT_in 1197 (by decide +kernel) (by decide +kernel)
theorem w1198 : (Jvm.Cond.methodLink "LockstepNetModel" (169 : Nat) ({ cls := "LockstepNetModel", name := "isRegister", desc := "(I)Z" } : Jvm.MethodName)) ∈ jT := jT_in 1198 (by decide +kernel) (by decide +kernel)
theorem w1199 : (Jvm.Cond.static ({ cls := "LockstepNetModel", name := "isRegister", desc := "(I)Z" } : Jvm.MethodName)) ∈ jT := jT_in 1199 (by decide +kernel) (by decide +kernel)
theorem w1200 : (Jvm.Cond.code ({ cls := "LockstepNetModel", name := "isRegister", desc := "(I)Z" } : Jvm.MethodName) prog_10_method_20_code (1 : Nat) (Option.some Jvm.ClassFile.FieldType.boolean)) ∈ jT := jT_in 1200 (by decide +kernel) (by decide +kernel)
theorem w1201 : (Jvm.Cond.methodLink "LockstepNetModel" (172 : Nat) ({ cls := "LockstepNetModel", name := "usesA", desc := "(I)Z" } : Jvm.MethodName)) ∈ jT := jT_in 1201 (by decide +kernel) (by decide +kernel)
theorem w1202 : (Jvm.Cond.static ({ cls := "LockstepNetModel", name := "usesA", desc := "(I)Z" } : Jvm.MethodName)) ∈ jT := jT_in 1202 (by decide +kernel) (by decide +kernel)
theorem w1203 : (Jvm.Cond.code ({ cls := "LockstepNetModel", name := "usesA", desc := "(I)Z" } : Jvm.MethodName) prog_10_method_21_code (1 : Nat) (Option.some Jvm.ClassFile.FieldType.boolean)) ∈ jT := jT_in 1203 (by decide +kernel) (by decide +kernel)
theorem w1204 : (Jvm.Cond.methodLink "LockstepNetModel" (175 : Nat) ({ cls := "LockstepNetModel", name := "usesB", desc := "(I)Z" } : Jvm.MethodName)) ∈ jT := jT_in 1204 (by decide +kernel) (by decide +kernel)
theorem w1205 : (Jvm.Cond.static ({ cls := "LockstepNetModel", name := "usesB", desc := "(I)Z" } : Jvm.MethodName)) ∈ jT := jT_in 1205 (by decide +kernel) (by decide +kernel)
theorem w1206 : (Jvm.Cond.code ({ cls := "LockstepNetModel", name := "usesB", desc := "(I)Z" } : Jvm.MethodName) prog_10_method_22_code (1 : Nat) (Option.some Jvm.ClassFile.FieldType.boolean)) ∈ jT := jT_in 1206 (by decide +kernel) (by decide +kernel)
theorem w1207 : (Jvm.Cond.methodLink "LockstepNetModel" (178 : Nat) ({ cls := "LockstepNetModel", name := "isMidst", desc := "(IJ)Z" } : Jvm.MethodName)) ∈ jT := jT_in 1207 (by decide +kernel) (by decide +kernel)
theorem w1209 : (Jvm.Cond.instanceMethod ({ cls := "LockstepNetModel", name := "isMidst", desc := "(IJ)Z" } : Jvm.MethodName)) ∈ jT := jT_in 1209 (by decide +kernel) (by decide +kernel)
theorem w1210 : (Jvm.Cond.code ({ cls := "LockstepNetModel", name := "isMidst", desc := "(IJ)Z" } : Jvm.MethodName) prog_10_method_24_code (6 : Nat) (Option.some Jvm.ClassFile.FieldType.boolean)) ∈ jT := jT_in 1210 (by decide +kernel) (by decide +kernel)
theorem w1219 : (Jvm.Cond.methodLink "LockstepNetModel" (205 : Nat) ({ cls := "LockstepNetModel", name := "plainRound", desc := "(I)V" } : Jvm.MethodName)) ∈ jT := jT_in 1219 (by decide +kernel) (by decide +kernel)
theorem w1221 : (Jvm.Cond.instanceMethod ({ cls := "LockstepNetModel", name := "plainRound", desc := "(I)V" } : Jvm.MethodName)) ∈ jT := jT_in 1221 (by decide +kernel) (by decide +kernel)
theorem w1222 : (Jvm.Cond.code ({ cls := "LockstepNetModel", name := "plainRound", desc := "(I)V" } : Jvm.MethodName) prog_10_method_36_code (8 : Nat) (Option.none : Option Jvm.ClassFile.FieldType)) ∈ jT := jT_in 1222 (by decide +kernel) (by decide +kernel)
theorem w1223 : (Jvm.Cond.methodLink "LockstepNetModel" (202 : Nat) ({ cls := "LockstepNetModel", name := "towards", desc := "(II)I" } : Jvm.MethodName)) ∈ jT := jT_in 1223 (by decide +kernel) (by decide +kernel)
theorem w1225 : (Jvm.Cond.instanceMethod ({ cls := "LockstepNetModel", name := "towards", desc := "(II)I" } : Jvm.MethodName)) ∈ jT := jT_in 1225 (by decide +kernel) (by decide +kernel)
theorem w1226 : (Jvm.Cond.code ({ cls := "LockstepNetModel", name := "towards", desc := "(II)I" } : Jvm.MethodName) prog_10_method_9_code (3 : Nat) (Option.some Jvm.ClassFile.FieldType.int)) ∈ jT := jT_in 1226 (by decide +kernel) (by decide +kernel)
theorem w1227 : (Jvm.Cond.methodLink "LockstepNetModel" (209 : Nat) ({ cls := "LockstepNetModel", name := "doProgram", desc := "(II)V" } : Jvm.MethodName)) ∈ jT := jT_in 1227 (by decide +kernel) (by decide +kernel)
theorem w1229 : (Jvm.Cond.instanceMethod ({ cls := "LockstepNetModel", name := "doProgram", desc := "(II)V" } : Jvm.MethodName)) ∈ jT := jT_in 1229 (by decide +kernel) (by decide +kernel)
theorem w1230 : (Jvm.Cond.code ({ cls := "LockstepNetModel", name := "doProgram", desc := "(II)V" } : Jvm.MethodName) prog_10_method_33_code (6 : Nat) (Option.none : Option Jvm.ClassFile.FieldType)) ∈ jT := jT_in 1230 (by decide +kernel) (by decide +kernel)
theorem w1231 : (Jvm.Cond.methodLink "LockstepNetModel" (199 : Nat) ({ cls := "LockstepNetModel", name := "doWords", desc := "(IIIII)V" } : Jvm.MethodName)) ∈ jT := jT_in 1231 (by decide +kernel) (by decide +kernel)
theorem w1233 : (Jvm.Cond.instanceMethod ({ cls := "LockstepNetModel", name := "doWords", desc := "(IIIII)V" } : Jvm.MethodName)) ∈ jT := jT_in 1233 (by decide +kernel) (by decide +kernel)
theorem w1234 : (Jvm.Cond.code ({ cls := "LockstepNetModel", name := "doWords", desc := "(IIIII)V" } : Jvm.MethodName) prog_10_method_32_code (7 : Nat) (Option.none : Option Jvm.ClassFile.FieldType)) ∈ jT := jT_in 1234 (by decide +kernel) (by decide +kernel)
theorem w1235 : (Jvm.Cond.methodLink "LockstepNetModel" (196 : Nat) ({ cls := "LockstepNetModel", name := "doWord", desc := "(IIII)V" } : Jvm.MethodName)) ∈ jT := jT_in 1235 (by decide +kernel) (by decide +kernel)
theorem w1237 : (Jvm.Cond.instanceMethod ({ cls := "LockstepNetModel", name := "doWord", desc := "(IIII)V" } : Jvm.MethodName)) ∈ jT := jT_in 1237 (by decide +kernel) (by decide +kernel)
theorem w1238 : (Jvm.Cond.code ({ cls := "LockstepNetModel", name := "doWord", desc := "(IIII)V" } : Jvm.MethodName) prog_10_method_31_code (8 : Nat) (Option.none : Option Jvm.ClassFile.FieldType)) ∈ jT := jT_in 1238 (by decide +kernel) (by decide +kernel)
theorem w1239 : (Jvm.Cond.methodLink "LockstepNetModel" (189 : Nat) ({ cls := "LockstepNetModel", name := "make", desc := "(III)I" } : Jvm.MethodName)) ∈ jT := jT_in 1239 (by decide +kernel) (by decide +kernel)
theorem w1240 : (Jvm.Cond.static ({ cls := "LockstepNetModel", name := "make", desc := "(III)I" } : Jvm.MethodName)) ∈ jT := jT_in 1240 (by decide +kernel) (by decide +kernel)
theorem w1241 : (Jvm.Cond.code ({ cls := "LockstepNetModel", name := "make", desc := "(III)I" } : Jvm.MethodName) prog_10_method_30_code (3 : Nat) (Option.some Jvm.ClassFile.FieldType.int)) ∈ jT := jT_in 1241 (by decide +kernel) (by decide +kernel)
theorem w1242 : (Jvm.Cond.methodLink "LockstepNetModel" (193 : Nat) ({ cls := "LockstepNetModel", name := "lowestZero", desc := "(I)I" } : Jvm.MethodName)) ∈ jT := jT_in 1242 (by decide +kernel) (by decide +kernel)
theorem w1243 : (Jvm.Cond.static ({ cls := "LockstepNetModel", name := "lowestZero", desc := "(I)I" } : Jvm.MethodName)) ∈ jT := jT_in 1243 (by decide +kernel) (by decide +kernel)
theorem w1244 : (Jvm.Cond.code ({ cls := "LockstepNetModel", name := "lowestZero", desc := "(I)I" } : Jvm.MethodName) prog_10_method_29_code (2 : Nat) (Option.some Jvm.ClassFile.FieldType.int)) ∈ jT := jT_in 1244 (by decide +kernel) (by decide +kernel)
theorem w1245 : (Jvm.Cond.methodLink "LockstepNetModel" (212 : Nat) ({ cls := "LockstepNetModel", name := "otherEnd", desc := "(II)I" } : Jvm.MethodName)) ∈ jT := jT_in 1245 (by decide +kernel) (by decide +kernel)
theorem w1247 : (Jvm.Cond.instanceMethod ({ cls := "LockstepNetModel", name := "otherEnd", desc := "(II)I" } : Jvm.MethodName)) ∈ jT := jT_in 1247 (by decide +kernel) (by decide +kernel)
theorem w1248 : (Jvm.Cond.code ({ cls := "LockstepNetModel", name := "otherEnd", desc := "(II)I" } : Jvm.MethodName) prog_10_method_8_code (3 : Nat) (Option.some Jvm.ClassFile.FieldType.int)) ∈ jT := jT_in 1248 (by decide +kernel) (by decide +kernel)
theorem w1257 : (Jvm.Cond.methodLink "LockstepNetModel" (230 : Nat) ({ cls := "LockstepNetModel", name := "makeTree", desc := "()Z" } : Jvm.MethodName)) ∈ jT := jT_in 1257 (by decide +kernel) (by decide +kernel)
theorem w1259 : (Jvm.Cond.instanceMethod ({ cls := "LockstepNetModel", name := "makeTree", desc := "()Z" } : Jvm.MethodName)) ∈ jT := jT_in 1259 (by decide +kernel) (by decide +kernel)
theorem w1260 : (Jvm.Cond.code ({ cls := "LockstepNetModel", name := "makeTree", desc := "()Z" } : Jvm.MethodName) prog_10_method_38_code (6 : Nat) (Option.some Jvm.ClassFile.FieldType.boolean)) ∈ jT := jT_in 1260 (by decide +kernel) (by decide +kernel)
theorem w1261 : (Jvm.Cond.methodLink "LockstepNetModel" (234 : Nat) ({ cls := "LockstepNetModel", name := "makeClusters", desc := "(I)V" } : Jvm.MethodName)) ∈ jT := jT_in 1261 (by decide +kernel) (by decide +kernel)
theorem w1263 : (Jvm.Cond.instanceMethod ({ cls := "LockstepNetModel", name := "makeClusters", desc := "(I)V" } : Jvm.MethodName)) ∈ jT := jT_in 1263 (by decide +kernel) (by decide +kernel)
theorem w1264 : (Jvm.Cond.code ({ cls := "LockstepNetModel", name := "makeClusters", desc := "(I)V" } : Jvm.MethodName) prog_10_method_43_code (3 : Nat) (Option.none : Option Jvm.ClassFile.FieldType)) ∈ jT := jT_in 1264 (by decide +kernel) (by decide +kernel)
theorem w1265 : (Jvm.Cond.methodLink "LockstepNetModel" (224 : Nat) ({ cls := "LockstepNetModel", name := "makeCluster", desc := "(II)V" } : Jvm.MethodName)) ∈ jT := jT_in 1265 (by decide +kernel) (by decide +kernel)
theorem w1267 : (Jvm.Cond.instanceMethod ({ cls := "LockstepNetModel", name := "makeCluster", desc := "(II)V" } : Jvm.MethodName)) ∈ jT := jT_in 1267 (by decide +kernel) (by decide +kernel)
theorem w1268 : (Jvm.Cond.code ({ cls := "LockstepNetModel", name := "makeCluster", desc := "(II)V" } : Jvm.MethodName) prog_10_method_41_code (8 : Nat) (Option.none : Option Jvm.ClassFile.FieldType)) ∈ jT := jT_in 1268 (by decide +kernel) (by decide +kernel)
theorem w1269 : (Jvm.Cond.methodLink "LockstepNetModel" (218 : Nat) ({ cls := "LockstepNetModel", name := "markLayer", desc := "(I)I" } : Jvm.MethodName)) ∈ jT := jT_in 1269 (by decide +kernel) (by decide +kernel)
theorem w1271 : (Jvm.Cond.instanceMethod ({ cls := "LockstepNetModel", name := "markLayer", desc := "(I)I" } : Jvm.MethodName)) ∈ jT := jT_in 1271 (by decide +kernel) (by decide +kernel)
theorem w1272 : (Jvm.Cond.code ({ cls := "LockstepNetModel", name := "markLayer", desc := "(I)I" } : Jvm.MethodName) prog_10_method_40_code (6 : Nat) (Option.some Jvm.ClassFile.FieldType.int)) ∈ jT := jT_in 1272 (by decide +kernel) (by decide +kernel)
theorem w1273 : (Jvm.Cond.methodLink "LockstepNetModel" (221 : Nat) ({ cls := "LockstepNetModel", name := "sizeOf", desc := "(I)I" } : Jvm.MethodName)) ∈ jT := jT_in 1273 (by decide +kernel) (by decide +kernel)
theorem w1275 : (Jvm.Cond.instanceMethod ({ cls := "LockstepNetModel", name := "sizeOf", desc := "(I)I" } : Jvm.MethodName)) ∈ jT := jT_in 1275 (by decide +kernel) (by decide +kernel)
theorem w1276 : (Jvm.Cond.code ({ cls := "LockstepNetModel", name := "sizeOf", desc := "(I)I" } : Jvm.MethodName) prog_10_method_39_code (4 : Nat) (Option.some Jvm.ClassFile.FieldType.int)) ∈ jT := jT_in 1276 (by decide +kernel) (by decide +kernel)
theorem w1277 : (Jvm.Cond.methodLink "LockstepNetModel" (227 : Nat) ({ cls := "LockstepNetModel", name := "chosenLink", desc := "(II)I" } : Jvm.MethodName)) ∈ jT := jT_in 1277 (by decide +kernel) (by decide +kernel)
theorem w1279 : (Jvm.Cond.instanceMethod ({ cls := "LockstepNetModel", name := "chosenLink", desc := "(II)I" } : Jvm.MethodName)) ∈ jT := jT_in 1279 (by decide +kernel) (by decide +kernel)
theorem w1280 : (Jvm.Cond.code ({ cls := "LockstepNetModel", name := "chosenLink", desc := "(II)I" } : Jvm.MethodName) prog_10_method_42_code (7 : Nat) (Option.some Jvm.ClassFile.FieldType.int)) ∈ jT := jT_in 1280 (by decide +kernel) (by decide +kernel)
theorem w1281 : (Jvm.Cond.methodLink "LockstepNetModel" (249 : Nat) ({ cls := "LockstepNetModel", name := "clearNode", desc := "(I)V" } : Jvm.MethodName)) ∈ jT := jT_in 1281 (by decide +kernel) (by decide +kernel)
theorem w1283 : (Jvm.Cond.instanceMethod ({ cls := "LockstepNetModel", name := "clearNode", desc := "(I)V" } : Jvm.MethodName)) ∈ jT := jT_in 1283 (by decide +kernel) (by decide +kernel)
theorem w1284 : (Jvm.Cond.code ({ cls := "LockstepNetModel", name := "clearNode", desc := "(I)V" } : Jvm.MethodName) prog_10_method_45_code (2 : Nat) (Option.none : Option Jvm.ClassFile.FieldType)) ∈ jT := jT_in 1284 (by decide +kernel) (by decide +kernel)
theorem w1293 : (Jvm.Cond.methodLink "LockstepNetModel" (302 : Nat) ({ cls := "LockstepNetModel", name := "act", desc := "(I)V" } : Jvm.MethodName)) ∈ jT := jT_in 1293 (by decide +kernel) (by decide +kernel)
theorem w1295 : (Jvm.Cond.instanceMethod ({ cls := "LockstepNetModel", name := "act", desc := "(I)V" } : Jvm.MethodName)) ∈ jT := jT_in 1295 (by decide +kernel) (by decide +kernel)
theorem w1296 : (Jvm.Cond.code ({ cls := "LockstepNetModel", name := "act", desc := "(I)V" } : Jvm.MethodName) prog_10_method_61_code (4 : Nat) (Option.none : Option Jvm.ClassFile.FieldType)) ∈ jT := jT_in 1296 (by decide +kernel) (by decide +kernel)
theorem w1297 : (Jvm.Cond.methodLink "LockstepNetModel" (290 : Nat) ({ cls := "LockstepNetModel", name := "wayOf", desc := "(I)I" } : Jvm.MethodName)) ∈ jT := jT_in 1297 (by decide +kernel) (by decide +kernel)
theorem w1299 : (Jvm.Cond.instanceMethod ({ cls := "LockstepNetModel", name := "wayOf", desc := "(I)I" } : Jvm.MethodName)) ∈ jT := jT_in 1299 (by decide +kernel) (by decide +kernel)
theorem w1300 : (Jvm.Cond.code ({ cls := "LockstepNetModel", name := "wayOf", desc := "(I)I" } : Jvm.MethodName) prog_10_method_49_code (4 : Nat) (Option.some Jvm.ClassFile.FieldType.int)) ∈ jT := jT_in 1300 (by decide +kernel) (by decide +kernel)
theorem w1301 : (Jvm.Cond.methodLink "LockstepNetModel" (293 : Nat) ({ cls := "LockstepNetModel", name := "byNodes", desc := "(I)Z" } : Jvm.MethodName)) ∈ jT := jT_in 1301 (by decide +kernel) (by decide +kernel)
theorem w1303 : (Jvm.Cond.instanceMethod ({ cls := "LockstepNetModel", name := "byNodes", desc := "(I)Z" } : Jvm.MethodName)) ∈ jT := jT_in 1303 (by decide +kernel) (by decide +kernel)
theorem w1304 : (Jvm.Cond.code ({ cls := "LockstepNetModel", name := "byNodes", desc := "(I)Z" } : Jvm.MethodName) prog_10_method_57_code (2 : Nat) (Option.some Jvm.ClassFile.FieldType.boolean)) ∈ jT := jT_in 1304 (by decide +kernel) (by decide +kernel)
theorem w1305 : (Jvm.Cond.methodLink "LockstepNetModel" (264 : Nat) ({ cls := "LockstepNetModel", name := "maySay", desc := "(I)Z" } : Jvm.MethodName)) ∈ jT := jT_in 1305 (by decide +kernel) (by decide +kernel)
theorem w1307 : (Jvm.Cond.instanceMethod ({ cls := "LockstepNetModel", name := "maySay", desc := "(I)Z" } : Jvm.MethodName)) ∈ jT := jT_in 1307 (by decide +kernel) (by decide +kernel)
theorem w1308 : (Jvm.Cond.code ({ cls := "LockstepNetModel", name := "maySay", desc := "(I)Z" } : Jvm.MethodName) prog_10_method_56_code (2 : Nat) (Option.some Jvm.ClassFile.FieldType.boolean)) ∈ jT := jT_in 1308 (by decide +kernel) (by decide +kernel)
theorem w1309 : (Jvm.Cond.methodLink "LockstepNetModel" (267 : Nat) ({ cls := "LockstepNetModel", name := "toNeighbours", desc := "(II)V" } : Jvm.MethodName)) ∈ jT := jT_in 1309 (by decide +kernel) (by decide +kernel)
theorem w1311 : (Jvm.Cond.instanceMethod ({ cls := "LockstepNetModel", name := "toNeighbours", desc := "(II)V" } : Jvm.MethodName)) ∈ jT := jT_in 1311 (by decide +kernel) (by decide +kernel)
theorem w1312 : (Jvm.Cond.code ({ cls := "LockstepNetModel", name := "toNeighbours", desc := "(II)V" } : Jvm.MethodName) prog_10_method_52_code (4 : Nat) (Option.none : Option Jvm.ClassFile.FieldType)) ∈ jT := jT_in 1312 (by decide +kernel) (by decide +kernel)
theorem w1313 : (Jvm.Cond.methodLink "LockstepNetModel" (261 : Nat) ({ cls := "LockstepNetModel", name := "send", desc := "(IIIII)V" } : Jvm.MethodName)) ∈ jT := jT_in 1313 (by decide +kernel) (by decide +kernel)
theorem w1315 : (Jvm.Cond.instanceMethod ({ cls := "LockstepNetModel", name := "send", desc := "(IIIII)V" } : Jvm.MethodName)) ∈ jT := jT_in 1315 (by decide +kernel) (by decide +kernel)
theorem w1316 : (Jvm.Cond.code ({ cls := "LockstepNetModel", name := "send", desc := "(IIIII)V" } : Jvm.MethodName) prog_10_method_46_code (7 : Nat) (Option.none : Option Jvm.ClassFile.FieldType)) ∈ jT := jT_in 1316 (by decide +kernel) (by decide +kernel)
theorem w1317 : (Jvm.Cond.methodLink "LockstepNetModel" (270 : Nat) ({ cls := "LockstepNetModel", name := "cameTo", desc := "(II)I" } : Jvm.MethodName)) ∈ jT := jT_in 1317 (by decide +kernel) (by decide +kernel)
theorem w1319 : (Jvm.Cond.instanceMethod ({ cls := "LockstepNetModel", name := "cameTo", desc := "(II)I" } : Jvm.MethodName)) ∈ jT := jT_in 1319 (by decide +kernel) (by decide +kernel)
theorem w1320 : (Jvm.Cond.code ({ cls := "LockstepNetModel", name := "cameTo", desc := "(II)I" } : Jvm.MethodName) prog_10_method_48_code (3 : Nat) (Option.some Jvm.ClassFile.FieldType.int)) ∈ jT := jT_in 1320 (by decide +kernel) (by decide +kernel)
theorem w1321 : (Jvm.Cond.methodLink "LockstepNetModel" (252 : Nat) ({ cls := "LockstepNetModel", name := "spot", desc := "(III)I" } : Jvm.MethodName)) ∈ jT := jT_in 1321 (by decide +kernel) (by decide +kernel)
theorem w1322 : (Jvm.Cond.static ({ cls := "LockstepNetModel", name := "spot", desc := "(III)I" } : Jvm.MethodName)) ∈ jT := jT_in 1322 (by decide +kernel) (by decide +kernel)
theorem w1323 : (Jvm.Cond.code ({ cls := "LockstepNetModel", name := "spot", desc := "(III)I" } : Jvm.MethodName) prog_10_method_47_code (3 : Nat) (Option.some Jvm.ClassFile.FieldType.int)) ∈ jT := jT_in 1323 (by decide +kernel) (by decide +kernel)
theorem w1324 : (Jvm.Cond.methodLink "LockstepNetModel" (273 : Nat) ({ cls := "LockstepNetModel", name := "next", desc := "(I)V" } : Jvm.MethodName)) ∈ jT := jT_in 1324 (by decide +kernel) (by decide +kernel)
theorem w1326 : (Jvm.Cond.instanceMethod ({ cls := "LockstepNetModel", name := "next", desc := "(I)V" } : Jvm.MethodName)) ∈ jT := jT_in 1326 (by decide +kernel) (by decide +kernel)
theorem w1327 : (Jvm.Cond.code ({ cls := "LockstepNetModel", name := "next", desc := "(I)V" } : Jvm.MethodName) prog_10_method_51_code (4 : Nat) (Option.none : Option Jvm.ClassFile.FieldType)) ∈ jT := jT_in 1327 (by decide +kernel) (by decide +kernel)
theorem w1328 : (Jvm.Cond.methodLink "LockstepNetModel" (255 : Nat) ({ cls := "LockstepNetModel", name := "takeIn", desc := "(II)V" } : Jvm.MethodName)) ∈ jT := jT_in 1328 (by decide +kernel) (by decide +kernel)
theorem w1330 : (Jvm.Cond.instanceMethod ({ cls := "LockstepNetModel", name := "takeIn", desc := "(II)V" } : Jvm.MethodName)) ∈ jT := jT_in 1330 (by decide +kernel) (by decide +kernel)
theorem w1331 : (Jvm.Cond.code ({ cls := "LockstepNetModel", name := "takeIn", desc := "(II)V" } : Jvm.MethodName) prog_10_method_34_code (5 : Nat) (Option.none : Option Jvm.ClassFile.FieldType)) ∈ jT := jT_in 1331 (by decide +kernel) (by decide +kernel)
theorem w1332 : (Jvm.Cond.methodLink "LockstepNetModel" (258 : Nat) ({ cls := "LockstepNetModel", name := "measure", desc := "()V" } : Jvm.MethodName)) ∈ jT := jT_in 1332 (by decide +kernel) (by decide +kernel)
theorem w1334 : (Jvm.Cond.instanceMethod ({ cls := "LockstepNetModel", name := "measure", desc := "()V" } : Jvm.MethodName)) ∈ jT := jT_in 1334 (by decide +kernel) (by decide +kernel)
theorem w1335 : (Jvm.Cond.code ({ cls := "LockstepNetModel", name := "measure", desc := "()V" } : Jvm.MethodName) prog_10_method_50_code (4 : Nat) (Option.none : Option Jvm.ClassFile.FieldType)) ∈ jT := jT_in 1335 (by decide +kernel) (by decide +kernel)
theorem w1336 : (Jvm.Cond.methodLink "LockstepNetModel" (296 : Nat) ({ cls := "LockstepNetModel", name := "byTree", desc := "(I)Z" } : Jvm.MethodName)) ∈ jT := jT_in 1336 (by decide +kernel) (by decide +kernel)
theorem w1338 : (Jvm.Cond.instanceMethod ({ cls := "LockstepNetModel", name := "byTree", desc := "(I)Z" } : Jvm.MethodName)) ∈ jT := jT_in 1338 (by decide +kernel) (by decide +kernel)
theorem w1339 : (Jvm.Cond.code ({ cls := "LockstepNetModel", name := "byTree", desc := "(I)Z" } : Jvm.MethodName) prog_10_method_58_code (2 : Nat) (Option.some Jvm.ClassFile.FieldType.boolean)) ∈ jT := jT_in 1339 (by decide +kernel) (by decide +kernel)
theorem w1340 : (Jvm.Cond.methodLink "LockstepNetModel" (276 : Nat) ({ cls := "LockstepNetModel", name := "childrenOf", desc := "(IZ)I" } : Jvm.MethodName)) ∈ jT := jT_in 1340 (by decide +kernel) (by decide +kernel)
theorem w1342 : (Jvm.Cond.instanceMethod ({ cls := "LockstepNetModel", name := "childrenOf", desc := "(IZ)I" } : Jvm.MethodName)) ∈ jT := jT_in 1342 (by decide +kernel) (by decide +kernel)
theorem w1343 : (Jvm.Cond.code ({ cls := "LockstepNetModel", name := "childrenOf", desc := "(IZ)I" } : Jvm.MethodName) prog_10_method_54_code (5 : Nat) (Option.some Jvm.ClassFile.FieldType.int)) ∈ jT := jT_in 1343 (by decide +kernel) (by decide +kernel)
theorem w1344 : (Jvm.Cond.methodLink "LockstepNetModel" (280 : Nat) ({ cls := "LockstepNetModel", name := "toChildren", desc := "(IIZ)V" } : Jvm.MethodName)) ∈ jT := jT_in 1344 (by decide +kernel) (by decide +kernel)
theorem w1346 : (Jvm.Cond.instanceMethod ({ cls := "LockstepNetModel", name := "toChildren", desc := "(IIZ)V" } : Jvm.MethodName)) ∈ jT := jT_in 1346 (by decide +kernel) (by decide +kernel)
theorem w1347 : (Jvm.Cond.code ({ cls := "LockstepNetModel", name := "toChildren", desc := "(IIZ)V" } : Jvm.MethodName) prog_10_method_53_code (5 : Nat) (Option.none : Option Jvm.ClassFile.FieldType)) ∈ jT := jT_in 1347 (by decide +kernel) (by decide +kernel)
theorem w1348 : (Jvm.Cond.methodLink "LockstepNetModel" (299 : Nat) ({ cls := "LockstepNetModel", name := "byClusters", desc := "(I)Z" } : Jvm.MethodName)) ∈ jT := jT_in 1348 (by decide +kernel) (by decide +kernel)
theorem w1350 : (Jvm.Cond.instanceMethod ({ cls := "LockstepNetModel", name := "byClusters", desc := "(I)Z" } : Jvm.MethodName)) ∈ jT := jT_in 1350 (by decide +kernel) (by decide +kernel)
theorem w1351 : (Jvm.Cond.code ({ cls := "LockstepNetModel", name := "byClusters", desc := "(I)Z" } : Jvm.MethodName) prog_10_method_60_code (3 : Nat) (Option.some Jvm.ClassFile.FieldType.boolean)) ∈ jT := jT_in 1351 (by decide +kernel) (by decide +kernel)
theorem w1352 : (Jvm.Cond.methodLink "LockstepNetModel" (284 : Nat) ({ cls := "LockstepNetModel", name := "tell", desc := "(I)V" } : Jvm.MethodName)) ∈ jT := jT_in 1352 (by decide +kernel) (by decide +kernel)
theorem w1354 : (Jvm.Cond.instanceMethod ({ cls := "LockstepNetModel", name := "tell", desc := "(I)V" } : Jvm.MethodName)) ∈ jT := jT_in 1354 (by decide +kernel) (by decide +kernel)
theorem w1355 : (Jvm.Cond.code ({ cls := "LockstepNetModel", name := "tell", desc := "(I)V" } : Jvm.MethodName) prog_10_method_59_code (4 : Nat) (Option.none : Option Jvm.ClassFile.FieldType)) ∈ jT := jT_in 1355 (by decide +kernel) (by decide +kernel)
theorem w1356 : (Jvm.Cond.methodLink "LockstepNetModel" (287 : Nat) ({ cls := "LockstepNetModel", name := "chosenOf", desc := "(I)I" } : Jvm.MethodName)) ∈ jT := jT_in 1356 (by decide +kernel) (by decide +kernel)
theorem w1358 : (Jvm.Cond.instanceMethod ({ cls := "LockstepNetModel", name := "chosenOf", desc := "(I)I" } : Jvm.MethodName)) ∈ jT := jT_in 1358 (by decide +kernel) (by decide +kernel)
theorem w1359 : (Jvm.Cond.code ({ cls := "LockstepNetModel", name := "chosenOf", desc := "(I)I" } : Jvm.MethodName) prog_10_method_55_code (4 : Nat) (Option.some Jvm.ClassFile.FieldType.int)) ∈ jT := jT_in 1359 (by decide +kernel) (by decide +kernel)
theorem w1372 : (Jvm.Cond.methodLink "LockstepNetModel" (305 : Nat) ({ cls := "LockstepNetModel", name := "bring", desc := "(I)I" } : Jvm.MethodName)) ∈ jT := jT_in 1372 (by decide +kernel) (by decide +kernel)
theorem w1374 : (Jvm.Cond.instanceMethod ({ cls := "LockstepNetModel", name := "bring", desc := "(I)I" } : Jvm.MethodName)) ∈ jT := jT_in 1374 (by decide +kernel) (by decide +kernel)
theorem w1375 : (Jvm.Cond.code ({ cls := "LockstepNetModel", name := "bring", desc := "(I)I" } : Jvm.MethodName) prog_10_method_66_code (8 : Nat) (Option.some Jvm.ClassFile.FieldType.int)) ∈ jT := jT_in 1375 (by decide +kernel) (by decide +kernel)
theorem w1380 : (Jvm.Cond.constant "LockstepNetModel" (308 : Nat) (1103515245 : Int32)) ∈ jT := jT_in 1380 (by decide +kernel) (by decide +kernel)
theorem nmJ6_bitCount_0f7a4 : jNm yJ6_bitCount_0f7a4 1 := by unfold jNm; decide +kernel
theorem nmJ7_fill_53178 : jNm yJ7_fill_53178 2 := by unfold jNm; decide +kernel
theorem nmJ9_max_7cf53 : jNm yJ9_max_7cf53 2 := by unfold jNm; decide +kernel
theorem nmX0_choose : jNm yX0_choose 1 := by unfold jNm; decide +kernel
theorem nmX0_make : jNm yX0_make 2 := by unfold jNm; decide +kernel
theorem nmX0_number : jNm yX0_number 2 := by unfold jNm; decide +kernel
theorem nmX1_accept : jNm yX1_accept 4 := by unfold jNm; decide +kernel
theorem nmX1_begin : jNm yX1_begin 1 := by unfold jNm; decide +kernel
theorem nmX1_boxOf : jNm yX1_boxOf 2 := by unfold jNm; decide +kernel
theorem nmX1_combined : jNm yX1_combined 3 := by unfold jNm; decide +kernel
theorem nmX1_doRound : jNm yX1_doRound 2 := by unfold jNm; decide +kernel
theorem nmX1_doWord : jNm yX1_doWord 2 := by unfold jNm; decide +kernel
theorem nmX1_goesBy : jNm yX1_goesBy 1 := by unfold jNm; decide +kernel
theorem nmX1_passOn : jNm yX1_passOn 2 := by unfold jNm; decide +kernel
theorem nmX1_received : jNm yX1_received 2 := by unfold jNm; decide +kernel
theorem nmX1_reckoned : jNm yX1_reckoned 1 := by unfold jNm; decide +kernel
theorem nmX2_addPort : jNm yX2_addPort 2 := by unfold jNm; decide +kernel
theorem nmX2_allNodes : jNm yX2_allNodes 0 := by unfold jNm; decide +kernel
theorem nmX2_areLinked : jNm yX2_areLinked 2 := by unfold jNm; decide +kernel
theorem nmX2_empty : jNm yX2_empty 1 := by unfold jNm; decide +kernel
theorem nmX2_isConnected : jNm yX2_isConnected 0 := by unfold jNm; decide +kernel
theorem nmX2_join : jNm yX2_join 2 := by unfold jNm; decide +kernel
theorem nmX2_nextTo : jNm yX2_nextTo 1 := by unfold jNm; decide +kernel
theorem nmX3_empty : jNm yX3_empty 0 := by unfold jNm; decide +kernel
theorem nmX3_remove : jNm yX3_remove 1 := by unfold jNm; decide +kernel
theorem nmX3_send : jNm yX3_send 5 := by unfold jNm; decide +kernel
theorem nmX4_builtInWords : jNm yX4_builtInWords 1 := by unfold jNm; decide +kernel
theorem nmX4_firstWrong : jNm yX4_firstWrong 0 := by unfold jNm; decide +kernel
theorem nmX4_hasWrongParts : jNm yX4_hasWrongParts 1 := by unfold jNm; decide +kernel
theorem nmX4_isRegister : jNm yX4_isRegister 1 := by unfold jNm; decide +kernel
theorem nmX4_load : jNm yX4_load 1 := by unfold jNm; decide +kernel
theorem nmX4_put : jNm yX4_put 5 := by unfold jNm; decide +kernel
theorem nmX4_reachesTooFar : jNm yX4_reachesTooFar 2 := by unfold jNm; decide +kernel
theorem nmX4_skipsIntoEach : jNm yX4_skipsIntoEach 1 := by unfold jNm; decide +kernel
theorem nmX4_standsWrong : jNm yX4_standsWrong 2 := by unfold jNm; decide +kernel
theorem nmX5_begin : jNm yX5_begin 3 := by unfold jNm; decide +kernel
theorem nmX5_boxOf : jNm yX5_boxOf 2 := by unfold jNm; decide +kernel
theorem nmX5_carryOn : jNm yX5_carryOn 1 := by unfold jNm; decide +kernel
theorem nmX5_changeWay : jNm yX5_changeWay 1 := by unfold jNm; decide +kernel
theorem nmX5_enterNextRound : jNm yX5_enterNextRound 1 := by unfold jNm; decide +kernel
theorem nmX5_forgetRound : jNm yX5_forgetRound 1 := by unfold jNm; decide +kernel
theorem nmX5_greatestRound : jNm yX5_greatestRound 0 := by unfold jNm; decide +kernel
theorem nmX5_handOver : jNm yX5_handOver 1 := by unfold jNm; decide +kernel
theorem nmX5_heardBy : jNm yX5_heardBy 2 := by unfold jNm; decide +kernel
theorem nmX5_isIn : jNm yX5_isIn 2 := by unfold jNm; decide +kernel
theorem nmX5_mayAnnounce : jNm yX5_mayAnnounce 1 := by unfold jNm; decide +kernel
theorem nmX5_nextByClusters : jNm yX5_nextByClusters 1 := by unfold jNm; decide +kernel
theorem nmX5_nextByNodes : jNm yX5_nextByNodes 1 := by unfold jNm; decide +kernel
theorem nmX5_nextByTree : jNm yX5_nextByTree 1 := by unfold jNm; decide +kernel
theorem nmX5_nextDeed : jNm yX5_nextDeed 2 := by unfold jNm; decide +kernel
theorem nmX5_noteWidest : jNm yX5_noteWidest 1 := by unfold jNm; decide +kernel
theorem nmX5_sendByNumbers : jNm yX5_sendByNumbers 3 := by unfold jNm; decide +kernel
theorem nmX5_sendByPorts : jNm yX5_sendByPorts 3 := by unfold jNm; decide +kernel
theorem nmX5_sendFor : jNm yX5_sendFor 3 := by unfold jNm; decide +kernel
theorem nmX5_wayOutOf : jNm yX5_wayOutOf 1 := by unfold jNm; decide +kernel
theorem nmX6_grow : jNm yX6_grow 4 := by unfold jNm; decide +kernel
theorem nmX6_hang : jNm yX6_hang 2 := by unfold jNm; decide +kernel
theorem nmX6_plant : jNm yX6_plant 1 := by unfold jNm; decide +kernel
theorem nmX7_isWay : jNm yX7_isWay 1 := by unfold jNm; decide +kernel
theorem nmX7_lowestNode : jNm yX7_lowestNode 1 := by unfold jNm; decide +kernel
theorem nmX7_needCluster : jNm yX7_needCluster 1 := by unfold jNm; decide +kernel
theorem nmX7_needLetter : jNm yX7_needLetter 1 := by unfold jNm; decide +kernel
theorem nmX7_needNode : jNm yX7_needNode 1 := by unfold jNm; decide +kernel
theorem nmX7_needRegister : jNm yX7_needRegister 1 := by unfold jNm; decide +kernel
theorem nmX7_needRun : jNm yX7_needRun 0 := by unfold jNm; decide +kernel
theorem nmX7_refuseWithRun : jNm yX7_refuseWithRun 0 := by unfold jNm; decide +kernel
theorem nmX7_refuseWrongWord : jNm yX7_refuseWrongWord 0 := by unfold jNm; decide +kernel
theorem nmX8_act : jNm yX8_act 1 := by unfold jNm; decide +kernel
theorem nmX8_add : jNm yX8_add 4 := by unfold jNm; decide +kernel
theorem nmX8_addPort : jNm yX8_addPort 2 := by unfold jNm; decide +kernel
theorem nmX8_bring : jNm yX8_bring 1 := by unfold jNm; decide +kernel
theorem nmX8_byClusters : jNm yX8_byClusters 1 := by unfold jNm; decide +kernel
theorem nmX8_byNodes : jNm yX8_byNodes 1 := by unfold jNm; decide +kernel
theorem nmX8_byTree : jNm yX8_byTree 1 := by unfold jNm; decide +kernel
theorem nmX8_cameTo : jNm yX8_cameTo 2 := by unfold jNm; decide +kernel
theorem nmX8_cells : jNm yX8_cells 0 := by unfold jNm; decide +kernel
theorem nmX8_childrenOf : jNm yX8_childrenOf 2 := by unfold jNm; decide +kernel
theorem nmX8_chosenLink : jNm yX8_chosenLink 2 := by unfold jNm; decide +kernel
theorem nmX8_chosenOf : jNm yX8_chosenOf 1 := by unfold jNm; decide +kernel
theorem nmX8_clearNode : jNm yX8_clearNode 1 := by unfold jNm; decide +kernel
theorem nmX8_colours : jNm yX8_colours 0 := by unfold jNm; decide +kernel
theorem nmX8_doProgram : jNm yX8_doProgram 2 := by unfold jNm; decide +kernel
theorem nmX8_doWord : jNm yX8_doWord 4 := by unfold jNm; decide +kernel
theorem nmX8_doWords : jNm yX8_doWords 5 := by unfold jNm; decide +kernel
theorem nmX8_isMidst : jNm yX8_isMidst 2 := by unfold jNm; decide +kernel
theorem nmX8_isNode : jNm yX8_isNode 1 := by unfold jNm; decide +kernel
theorem nmX8_isRegister : jNm yX8_isRegister 1 := by unfold jNm; decide +kernel
theorem nmX8_isWrong : jNm yX8_isWrong 1 := by unfold jNm; decide +kernel
theorem nmX8_lastOfEach : jNm yX8_lastOfEach 1 := by unfold jNm; decide +kernel
theorem nmX8_layers : jNm yX8_layers 0 := by unfold jNm; decide +kernel
theorem nmX8_leasts : jNm yX8_leasts 0 := by unfold jNm; decide +kernel
theorem nmX8_linkOf : jNm yX8_linkOf 2 := by unfold jNm; decide +kernel
theorem nmX8_lowestZero : jNm yX8_lowestZero 1 := by unfold jNm; decide +kernel
theorem nmX8_make : jNm yX8_make 3 := by unfold jNm; decide +kernel
theorem nmX8_makeCluster : jNm yX8_makeCluster 2 := by unfold jNm; decide +kernel
theorem nmX8_makeClusters : jNm yX8_makeClusters 1 := by unfold jNm; decide +kernel
theorem nmX8_makeTree : jNm yX8_makeTree 0 := by unfold jNm; decide +kernel
theorem nmX8_markLayer : jNm yX8_markLayer 1 := by unfold jNm; decide +kernel
theorem nmX8_maySay : jNm yX8_maySay 1 := by unfold jNm; decide +kernel
theorem nmX8_measure : jNm yX8_measure 0 := by unfold jNm; decide +kernel
theorem nmX8_next : jNm yX8_next 1 := by unfold jNm; decide +kernel
theorem nmX8_otherEnd : jNm yX8_otherEnd 2 := by unfold jNm; decide +kernel
theorem nmX8_plainRound : jNm yX8_plainRound 1 := by unfold jNm; decide +kernel
theorem nmX8_put : jNm yX8_put 5 := by unfold jNm; decide +kernel
theorem nmX8_send : jNm yX8_send 5 := by unfold jNm; decide +kernel
theorem nmX8_sizeOf : jNm yX8_sizeOf 1 := by unfold jNm; decide +kernel
theorem nmX8_spot : jNm yX8_spot 3 := by unfold jNm; decide +kernel
theorem nmX8_takeIn : jNm yX8_takeIn 2 := by unfold jNm; decide +kernel
theorem nmX8_tell : jNm yX8_tell 1 := by unfold jNm; decide +kernel
theorem nmX8_toChildren : jNm yX8_toChildren 3 := by unfold jNm; decide +kernel
theorem nmX8_toNeighbours : jNm yX8_toNeighbours 2 := by unfold jNm; decide +kernel
theorem nmX8_towards : jNm yX8_towards 2 := by unfold jNm; decide +kernel
theorem nmX8_usesA : jNm yX8_usesA 1 := by unfold jNm; decide +kernel
theorem nmX8_usesB : jNm yX8_usesB 1 := by unfold jNm; decide +kernel
theorem nmX8_walks : jNm yX8_walks 0 := by unfold jNm; decide +kernel
theorem nmX8_wayOf : jNm yX8_wayOf 1 := by unfold jNm; decide +kernel
theorem nmX8_wrongWord : jNm yX8_wrongWord 0 := by unfold jNm; decide +kernel
theorem cb_6 : (Int8.ofInt 6).toInt32 = 6 := by decide
theorem cb_7 : (Int8.ofInt 7).toInt32 = 7 := by decide
theorem cb_8 : (Int8.ofInt 8).toInt32 = 8 := by decide
theorem cb_9 : (Int8.ofInt 9).toInt32 = 9 := by decide
theorem cb_10 : (Int8.ofInt 10).toInt32 = 10 := by decide
theorem cb_11 : (Int8.ofInt 11).toInt32 = 11 := by decide
theorem cb_12 : (Int8.ofInt 12).toInt32 = 12 := by decide
theorem cb_13 : (Int8.ofInt 13).toInt32 = 13 := by decide
theorem cb_14 : (Int8.ofInt 14).toInt32 = 14 := by decide
theorem cb_15 : (Int8.ofInt 15).toInt32 = 15 := by decide
theorem cb_16 : (Int8.ofInt 16).toInt32 = 16 := by decide
theorem cb_17 : (Int8.ofInt 17).toInt32 = 17 := by decide
theorem cb_18 : (Int8.ofInt 18).toInt32 = 18 := by decide
theorem cb_19 : (Int8.ofInt 19).toInt32 = 19 := by decide
theorem cb_20 : (Int8.ofInt 20).toInt32 = 20 := by decide
theorem cb_21 : (Int8.ofInt 21).toInt32 = 21 := by decide
theorem cb_24 : (Int8.ofInt 24).toInt32 = 24 := by decide
theorem cb_31 : (Int8.ofInt 31).toInt32 = 31 := by decide
theorem cb_32 : (Int8.ofInt 32).toInt32 = 32 := by decide
theorem cb_60 : (Int8.ofInt 60).toInt32 = 60 := by decide
theorem cb_63 : (Int8.ofInt 63).toInt32 = 63 := by decide
theorem cb_64 : (Int8.ofInt 64).toInt32 = 64 := by decide
theorem cb_120 : (Int8.ofInt 120).toInt32 = 120 := by decide
theorem cc_m1 (x : Int32) : x + Int32.ofInt (-1) = x + (-1) := by rw [show Int32.ofInt (-1) = ((-1) : Int32) by decide]
theorem cc_1 (x : Int32) : x + Int32.ofInt 1 = x + 1 := by rw [show Int32.ofInt 1 = (1 : Int32) by decide]
theorem ci_m1 : Int32.ofInt (-1) = (-1) := by decide
theorem ci_0 : Int32.ofInt 0 = 0 := by decide
theorem ci_1 : Int32.ofInt 1 = 1 := by decide
theorem ci_2 : Int32.ofInt 2 = 2 := by decide
theorem ci_3 : Int32.ofInt 3 = 3 := by decide
theorem ci_4 : Int32.ofInt 4 = 4 := by decide
theorem ci_5 : Int32.ofInt 5 = 5 := by decide
theorem cl_1 : Int64.ofNat (((1 : Fin 2)) : Nat) = 1 := by decide
theorem cs_192 : (Int16.ofInt 192).toInt32 = 192 := by decide
theorem cs_240 : (Int16.ofInt 240).toInt32 = 240 := by decide
theorem cs_300 : (Int16.ofInt 300).toInt32 = 300 := by decide
theorem cs_384 : (Int16.ofInt 384).toInt32 = 384 := by decide
theorem cs_500 : (Int16.ofInt 500).toInt32 = 500 := by decide
theorem cs_512 : (Int16.ofInt 512).toInt32 = 512 := by decide
theorem cs_2000 : (Int16.ofInt 2000).toInt32 = 2000 := by decide
theorem cs_12345 : (Int16.ofInt 12345).toInt32 = 12345 := by decide
