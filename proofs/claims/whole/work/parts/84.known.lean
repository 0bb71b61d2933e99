/-! ===== what is known at the law's entry ===== -/
def nwL : List Cond := flatC (Cond.and given_1 narrow_1)
def nwT (k : Nat) : Term := .static "LockstepNet$Program" (jSn k) "[I"
theorem nw_e0 : (List.range 60).map (fun j => Cond.eq (.elem (nwT 0) (.int (Int32.ofNat j))) (.int (jSt 0 j))) = (nwL.drop 9).take 60 := by decide +kernel
theorem nw_a0 : Cond.arrayOf (nwT 0) .int ∈ nwL ∧ Cond.eq (.length (nwT 0)) (.int (Int32.ofNat 60)) ∈ nwL := by decide +kernel
theorem nw_s0 : Cond.laysStatic "LockstepNet$Program" (jSn 0) "[I" ∈ lw_tbl := by decide +kernel
theorem nw_e1 : (List.range 28).map (fun j => Cond.eq (.elem (nwT 1) (.int (Int32.ofNat j))) (.int (jSt 1 j))) = (nwL.drop 72).take 28 := by decide +kernel
theorem nw_a1 : Cond.arrayOf (nwT 1) .int ∈ nwL ∧ Cond.eq (.length (nwT 1)) (.int (Int32.ofNat 28)) ∈ nwL := by decide +kernel
theorem nw_s1 : Cond.laysStatic "LockstepNet$Program" (jSn 1) "[I" ∈ lw_tbl := by decide +kernel
theorem nw_e2 : (List.range 68).map (fun j => Cond.eq (.elem (nwT 2) (.int (Int32.ofNat j))) (.int (jSt 2 j))) = (nwL.drop 103).take 68 := by decide +kernel
theorem nw_a2 : Cond.arrayOf (nwT 2) .int ∈ nwL ∧ Cond.eq (.length (nwT 2)) (.int (Int32.ofNat 68)) ∈ nwL := by decide +kernel
theorem nw_s2 : Cond.laysStatic "LockstepNet$Program" (jSn 2) "[I" ∈ lw_tbl := by decide +kernel
theorem nw_e3 : (List.range 44).map (fun j => Cond.eq (.elem (nwT 3) (.int (Int32.ofNat j))) (.int (jSt 3 j))) = (nwL.drop 174).take 44 := by decide +kernel
theorem nw_a3 : Cond.arrayOf (nwT 3) .int ∈ nwL ∧ Cond.eq (.length (nwT 3)) (.int (Int32.ofNat 44)) ∈ nwL := by decide +kernel
theorem nw_s3 : Cond.laysStatic "LockstepNet$Program" (jSn 3) "[I" ∈ lw_tbl := by decide +kernel
theorem nw_e4 : (List.range 128).map (fun j => Cond.eq (.elem (nwT 4) (.int (Int32.ofNat j))) (.int (jSt 4 j))) = (nwL.drop 221).take 128 := by decide +kernel
theorem nw_a4 : Cond.arrayOf (nwT 4) .int ∈ nwL ∧ Cond.eq (.length (nwT 4)) (.int (Int32.ofNat 128)) ∈ nwL := by decide +kernel
theorem nw_s4 : Cond.laysStatic "LockstepNet$Program" (jSn 4) "[I" ∈ lw_tbl := by decide +kernel
theorem nw_th : Cond.laysStatic Bundle.tN "UNASSIGNED_STACK" Bundle.steD ∈ lw_tbl ∧ Cond.laysStatic Bundle.tN "SUPPRESSED_SENTINEL" Bundle.listD ∈ lw_tbl ∧ Cond.initialized Bundle.tN ∈ lw_tbl ∧ Cond.isRef (.static Bundle.tN "UNASSIGNED_STACK" Bundle.steD) ∈ nwL ∧ Cond.isRef (.static Bundle.tN "SUPPRESSED_SENTINEL" Bundle.listD) ∈ nwL := by decide +kernel
theorem nw_str : ∀ q ∈ jStr, Cond.stringRef RX7 q.1 q.2 ∈ lw_tbl ∧ Cond.exactly (.string RX7 q.1) "java/lang/String" ∈ nwL := by decide +kernel
theorem nw_nc : ∀ a ∈ jEx, ∀ b ∈ jEx, a ≠ b → Cond.not (.castable a b) ∈ nwL := by decide +kernel
theorem nw_ini : Cond.initialized RX4 ∈ lw_tbl := by decide +kernel
theorem nw_ao : Cond.arrayOver (.array .int) ∈ lw_tbl := by decide +kernel
theorem nw_ac : Cond.arrayClass .int ∈ lw_tbl ∧ Cond.arrayClass .boolean ∈ lw_tbl ∧ Cond.arrayClass .long ∈ lw_tbl := by decide +kernel
theorem nw_i0 : Cond.instantiable RX0 6 ∈ jT := jT_in 266 (by decide +kernel) (by decide +kernel)
theorem nw_i1 : Cond.instantiable RX1 9 ∈ jT := jT_in 181 (by decide +kernel) (by decide +kernel)
theorem nw_i2 : Cond.instantiable RX2 8 ∈ jT := jT_in 135 (by decide +kernel) (by decide +kernel)
theorem nw_i3 : Cond.instantiable RX3 3 ∈ jT := jT_in 224 (by decide +kernel) (by decide +kernel)
theorem nw_i4 : Cond.instantiable RX4 5 ∈ jT := jT_in 106 (by decide +kernel) (by decide +kernel)
theorem nw_i5 : Cond.instantiable RX5 16 ∈ jT := jT_in 218 (by decide +kernel) (by decide +kernel)
theorem nw_i6 : Cond.instantiable RX6 3 ∈ jT := jT_in 246 (by decide +kernel) (by decide +kernel)
theorem nw_i7 : Cond.instantiable RX7 6 ∈ jT := jT_in 98 (by decide +kernel) (by decide +kernel)
theorem nw_i8 : Cond.instantiable RX8 44 ∈ jT := jT_in 979 (by decide +kernel) (by decide +kernel)
section C84
variable {s : State} {A : Array Value}
theorem st_arr {ty : FieldType} (h : (Cond.arrayClass ty).before A s = true) : ∃ c : ClassId, s.vm.findClass ("[" ++ ty.toString) = some c ∧ ArrOfT s c ty := by
  obtain ⟨c, k, comp, h1, h2, h3⟩ := Cond.arrayClass_spec h
  exact ⟨c, h1, fun n z => ⟨(fun q hq => by cases hq), k, h2, comp, h3⟩⟩
theorem st_aoa (h : (Cond.arrayOver (.array .int)).before A s = true) : ∃ c : ClassId, s.vm.findClass ("[" ++ (FieldType.array .int).toString) = some c ∧ ArrOfT s c (.array .int) := by
  obtain ⟨comp, c, k, h1, h2, h3, h4, h5⟩ := arrayOver_specB h
  exact ⟨c, h5, fun n z => ⟨(fun q hq => by cases hq), k, h3, comp, h4⟩⟩
theorem st_cls (hT : ∀ w ∈ jT, w.before A s = true) : ∃ D : va_G, ∀ (c : Nat) (q : vw_C), vwCl[c]? = some q → u_Kn s q.1 q.2.1 q.2.2 (D.1 c) (D.2 c) := by
  have hk : ∀ c : Nat, ∃ d : ClassId × (Nat → Nat), ∀ q : vw_C, vwCl[c]? = some q → u_Kn s q.1 q.2.1 q.2.2 d.1 d.2 := by
    intro c
    match c with
    | 0 =>
      obtain ⟨cC, iS, h⟩ := u_known (C := RX0) (T := TX0) (N := 6) (n := 6) hT jc0.2 (hT _ nw_i0)
      exact ⟨(cC, iS), fun q hq => by cases hq; exact h⟩
    | 1 =>
      obtain ⟨cC, iS, h⟩ := u_known (C := RX1) (T := TX1) (N := 9) (n := 9) hT jc1.2 (hT _ nw_i1)
      exact ⟨(cC, iS), fun q hq => by cases hq; exact h⟩
    | 2 =>
      obtain ⟨cC, iS, h⟩ := u_known (C := RX2) (T := TX2) (N := 8) (n := 8) hT jc2.2 (hT _ nw_i2)
      exact ⟨(cC, iS), fun q hq => by cases hq; exact h⟩
    | 3 =>
      obtain ⟨cC, iS, h⟩ := u_known (C := RX3) (T := TX3) (N := 3) (n := 3) hT jc3.2 (hT _ nw_i3)
      exact ⟨(cC, iS), fun q hq => by cases hq; exact h⟩
    | 4 =>
      obtain ⟨cC, iS, h⟩ := u_known (C := RX4) (T := TX4) (N := 5) (n := 5) hT jc4.2 (hT _ nw_i4)
      exact ⟨(cC, iS), fun q hq => by cases hq; exact h⟩
    | 5 =>
      obtain ⟨cC, iS, h⟩ := u_known (C := RX5) (T := TX5) (N := 16) (n := 16) hT jc5.2 (hT _ nw_i5)
      exact ⟨(cC, iS), fun q hq => by cases hq; exact h⟩
    | 6 =>
      obtain ⟨cC, iS, h⟩ := u_known (C := RX6) (T := TX6) (N := 3) (n := 3) hT jc6.2 (hT _ nw_i6)
      exact ⟨(cC, iS), fun q hq => by cases hq; exact h⟩
    | 7 =>
      obtain ⟨cC, iS, h⟩ := u_known (C := RX7) (T := TX7) (N := 6) (n := 6) hT jc7.2 (hT _ nw_i7)
      exact ⟨(cC, iS), fun q hq => by cases hq; exact h⟩
    | 8 =>
      obtain ⟨cC, iS, h⟩ := u_known (C := RX8) (T := TX8) (N := 44) (n := 44) hT jc8.2 (hT _ nw_i8)
      exact ⟨(cC, iS), fun q hq => by cases hq; exact h⟩
    | c + 9 => exact ⟨(0, fun _ => 0), fun q hq => by cases hq⟩
  obtain ⟨d, hd⟩ := Classical.axiomOfChoice hk
  exact ⟨(fun c => (d c).1, fun c => (d c).2), fun c q hq => hd c q hq⟩
theorem st_tab {k N p : Nat} (hgv : ∀ w ∈ nwL, w.before A s = true) (ht : ∀ w ∈ lw_tbl, w.before A s = true) (he : (List.range N).map (fun j => Cond.eq (.elem (nwT k) (.int (Int32.ofNat j))) (.int (jSt k j))) = (nwL.drop p).take N) (ha : Cond.arrayOf (nwT k) .int ∈ nwL ∧ Cond.eq (.length (nwT k)) (.int (Int32.ofNat N)) ∈ nwL) (hs : Cond.laysStatic "LockstepNet$Program" (jSn k) "[I" ∈ lw_tbl) (hN : N < 2 ^ 31) (hl : jSl k = N) :
    ∃ t : Nat, va_Z RX4 (jSn k) "[I" (.ref t) (fun q => s.heap.size ≤ q) s s.heap ∧ va_T .int t (jSl k) (fun j => .int (jSt k j)) (fun q => s.heap.size ≤ q) s s.heap := by
  subst hl
  have hA : ∀ a : Nat, a < s.heap.size → ¬ (fun q : Nat => s.heap.size ≤ q) a := fun a h q => absurd (Nat.lt_of_lt_of_le h q) (Nat.lt_irrefl _)
  obtain ⟨t, h1, h2⟩ := va_Tof (tm := nwT k) (ty := .int) (f := fun j => .int (jSt k j)) (A := fun q => s.heap.size ≤ q) hN (hgv _ ha.1) (va_eqt (hgv _ ha.2)) (fun j hj => va_eqt (hgv _ (va_run he j hj))) hA
  exact ⟨t, va_Zref (ht _ hs) (ht _ nw_ini) h1 hA, h2⟩
theorem st_known (hgv : ∀ w ∈ nwL, w.before A s = true) (ht : ∀ w ∈ lw_tbl, w.before A s = true) : ∃ (D : va_G) (cA : Nat → ClassId) (tt : Nat → Nat), kS (D, cA, s.heap.size) s ∧ ∀ ad : Nat → Nat, (∀ k, k < 5 → ad (1000 + k) = tt k) → jS (ad, cA, D, s.heap.size) s := by
  have hT : ∀ w ∈ jT, w.before A s = true := fun w hw => ht w (List.mem_filter.mp hw).1
  obtain ⟨D, hD⟩ := st_cls hT
  obtain ⟨c0, f0, a0⟩ := st_arr (ht _ nw_ac.1)
  obtain ⟨c1, f1, a1⟩ := st_arr (ht _ nw_ac.2.1)
  obtain ⟨c2, f2, a2⟩ := st_arr (ht _ nw_ac.2.2)
  obtain ⟨c3, f3, a3⟩ := st_aoa (ht _ nw_ao)
  have hK : va_K D vwCl (jTy (fun k => [c0, c1, c2, c3].getD k 0)) s := ⟨hD, fun k q hq => by
    match k, hq with
    | 0, hq => cases hq; exact ⟨a0, f0⟩
    | 1, hq => cases hq; exact ⟨a1, f1⟩
    | 2, hq => cases hq; exact ⟨a2, f2⟩
    | 3, hq => cases hq; exact ⟨a3, f3⟩
    | k + 4, hq => cases hq⟩
  have hN : ∀ w ∈ jN, va_Nw w s := fun w hw => va_Nw.of (jN_on (List.mem_filter.mp hw).2) (ht w (List.mem_filter.mp hw).1)
  have hA : ∀ a : Nat, a < s.heap.size → ¬ (fun q : Nat => s.heap.size ≤ q) a := fun a h q => absurd (Nat.lt_of_lt_of_le h q) (Nat.lt_irrefl _)
  obtain ⟨t0, z0, y0⟩ := st_tab (k := 0) hgv ht nw_e0 nw_a0 nw_s0 (by decide) rfl
  obtain ⟨t1, z1, y1⟩ := st_tab (k := 1) hgv ht nw_e1 nw_a1 nw_s1 (by decide) rfl
  obtain ⟨t2, z2, y2⟩ := st_tab (k := 2) hgv ht nw_e2 nw_a2 nw_s2 (by decide) rfl
  obtain ⟨t3, z3, y3⟩ := st_tab (k := 3) hgv ht nw_e3 nw_a3 nw_s3 (by decide) rfl
  obtain ⟨t4, z4, y4⟩ := st_tab (k := 4) hgv ht nw_e4 nw_a4 nw_s4 (by decide) rfl
  refine ⟨D, fun k => [c0, c1, c2, c3].getD k 0, fun k => [t0, t1, t2, t3, t4].getD k 0, ⟨hK, hN, arrayOver_alikeB (Vm.Alike.refl s.vm) (ht _ nw_ao)⟩, fun ad had => ⟨hK, hN, fun k hk => ?_, vx_Zqof (ht _ nw_th.1) (ht _ nw_th.2.2.1) (hgv _ nw_th.2.2.2.1) hA, vx_Zqof (ht _ nw_th.2.1) (ht _ nw_th.2.2.1) (hgv _ nw_th.2.2.2.2) hA, fun q hq => ?_, fun a ha b hb hne => va_Nc.of (hgv _ (nw_nc a ha b hb hne))⟩⟩
  · show va_Z RX4 (jSn k) "[I" (.ref (ad (1000 + k))) _ s s.heap ∧ va_T .int (ad (1000 + k)) _ _ _ s s.heap
    rw [had k hk]
    match k, hk with
    | 0, _ => exact ⟨z0, y0⟩
    | 1, _ => exact ⟨z1, y1⟩
    | 2, _ => exact ⟨z2, y2⟩
    | 3, _ => exact ⟨z3, y3⟩
    | 4, _ => exact ⟨z4, y4⟩
    | k + 5, hk => exact absurd hk (by omega)
  · obtain ⟨h1, h2⟩ := nw_str q hq
    obtain ⟨a, c, cA, kA, q1, -⟩ := Cond.exactly_spec (args := A) (first := s) (o := none) (s := s) (idx := []) (hgv _ h2)
    exact ⟨a, vk_R.of (ht _ h1) q1⟩
end C84
