/-! ===== two-dimensional arrays, made ===== -/
theorem kOuter (c : ClassId) (N h0 : Nat) : ∀ i : Nat, Jvm.Free.Multi.outerC c N h0 i = arrV c N (fun j => va_rf (if j < i then some (h0 + 1 + j) else none))
  | 0 => by
    show ({ cls := c, slots := Array.replicate N .null, vm := .none } : Cell) = _
    rw [arrV_new]
    exact arrV_ext (fun j _ => by simp [va_rf])
  | i + 1 => by
    show (Jvm.Free.Multi.outerC c N h0 i).setSlot i (.ref (h0 + 1 + i)) = _
    rw [kOuter c N h0 i, arrV_store]
    refine arrV_ext (fun j _ => ?_)
    by_cases e : j = i
    · subst e
      simp [updV, va_rf]
    · by_cases h : j < i
      · simp [updV, e, h, Nat.lt_succ_of_lt h]
      · simp [updV, e, h, show ¬ j < i + 1 by omega]
theorem k_sII : "[" ++ (FieldType.array FieldType.int).toString = "[[I" := by decide +kernel
section C80
variable {l : Launch} {g : kG} {X : jX} {Q : State → Prop} {cc : ByteArray} {nL pc n z hg nc ns : Nat} {own : String} {lv : List (Nat × Value)} {st : List Value} {ws : va_W}
theorem KJ_mna {N' K' idx : Nat} {v1 v2 : Int32} (h : kOk l g X cc nL own hg nc ns) (d : decode cc pc = .ok (.multianewarray idx 2, 4)) (w1 : Cond.classLink own idx "[[I" ∈ jT) (w2 : Cond.arrayClass .int ∈ jT) (hv1 : ¬ v1 < 0) (hv2 : ¬ v2 < 0) (hN : v1.toNatClampNeg = N') (hK : v2.toNatClampNeg = K') (hb : N' ≤ 1000 ∧ K' ≤ 1000) (hc : n + (1 + N') ≤ nc) (hz : z + (N' + N' * K') ≤ ns)
    (kk : ∀ q, KJ l g X Q nL (pc + 4) lv (.ref q :: st) (((List.range N').map (fun i => q + 1 + i)).map (fun a => ((a, .inl (g.2.1 0, (K', .inl (fun _ => 0)))) : Nat × va_E)) ++ (q, .inl (g.2.1 3, (N', .inr (.inr (.inr (.inr (fun i => if i < N' then some (q + 1 + i) else none))))))) :: ws) (n + 1 + N') (z + N' + N' * K')) : KJ l g X Q nL pc lv (.int v2 :: .int v1 :: st) ws n z := by
  subst hN
  subst hK
  obtain ⟨⟨p, e, R, s⟩, m, args, below, meth, c⟩ := X
  intro H locs Ls hP hD hS hL
  have q := h.2.2.2.2.2.2.2.2.2.1
  have hcl : (Cond.classLink own idx ("[" ++ (FieldType.array FieldType.int).toString)).before args s = true := by
    rw [k_sII]
    exact h.2.2.2.2.1 _ w1
  have hov : (Cond.arrayOver (.array .int)).before args s = true := arrayOver_alikeB (Vm.Alike.refl s.vm) h.2.2.2.2.2.1.2.2
  intro T hT Xs
  obtain ⟨vm₁, cA, comp, -, fA, fC, hO, -, X', step⟩ := Xs.multianewarray2F h.1 h.2.2.2.1 hcl hov (h.2.2.2.2.1 _ w2) (g := F0 m pc Ls (.int v2 :: .int v1 :: st)) rfl (by rw [h.2.1]; exact d) rfl hv1 hv2 (by omega) (by show _ * 4 ≤ _; omega) (by omega) rfl rfl (by omega) (by omega)
  have e0 : s.vm.findClass (FieldType.array FieldType.int).toString = some (g.2.1 0) := (h.2.2.2.2.2.1.1.2 0 _ rfl).2
  have e3 : s.vm.findClass ("[" ++ (FieldType.array FieldType.int).toString) = some (g.2.1 3) := (h.2.2.2.2.2.1.1.2 3 _ rfl).2
  obtain rfl := Option.some.inj (e0.symm.trans fC)
  obtain rfl := Option.some.inj (e3.symm.trans fA)
  generalize hF : Jvm.Free.Multi.fill (T.setVm vm₁) (g.2.1 3) (g.2.1 0) v1.toNatClampNeg v2.toNatClampNeg (defaultValue .int) v1.toNatClampNeg = F at X' step
  have hTh : (T.setVm vm₁).heap = H := hT
  obtain ⟨f1, f2, -, -⟩ := Jvm.Free.Multi.fill_facts (T.setVm vm₁) (g.2.1 3) (g.2.1 0) v1.toNatClampNeg v2.toNatClampNeg (defaultValue .int) v1.toNatClampNeg
  rw [hF, hTh] at f1 f2
  have hold : ∀ x : Nat, x < H.size → F.heap[x]? = H[x]? := fun x hx => by
    have := Jvm.Free.Multi.fill_old (T.setVm vm₁) (g.2.1 3) (g.2.1 0) v1.toNatClampNeg v2.toNatClampNeg (defaultValue .int) (a := x) (by rw [hTh]; exact hx) v1.toNatClampNeg
    rw [hF, hTh] at this
    exact this
  have hrow : ∀ j : Nat, j < v1.toNatClampNeg → F.heap[H.size + 1 + j]? = some (arrV (g.2.1 0) v2.toNatClampNeg (fun _ => .int 0)) := fun j hj => by
    have := Jvm.Free.Multi.fill_inner (T.setVm vm₁) (g.2.1 3) (g.2.1 0) v1.toNatClampNeg v2.toNatClampNeg (defaultValue .int) v1.toNatClampNeg j hj
    rw [hF, hTh] at this
    rw [this]
    exact congrArg some (arrV_new _ _ _)
  rw [kOuter] at f2
  have hB : g.2.2 ≤ H.size := Nat.le_trans h.2.2.2.2.2.2.1 hS.1
  have hP0 : va_P g.1 vwCl ws F.heap := hP.kept (fun k9 x hx => hold x.1 ((hP k9 x hx).lt))
  have hne : ∀ y ∈ ws, y.1 < H.size := kP_lt hP
  have hD1 : va_D (kB g) (((H.size, .inl (g.2.1 3, (v1.toNatClampNeg, .inr (.inr (.inr (.inr (fun i => if i < v1.toNatClampNeg then some (H.size + 1 + i) else none))))))) : Nat × va_E) :: ws) := kD_cons hD (fun y hy z9 => by
    have := hne y hy
    have z9 : y.1 = H.size := z9
    omega) hB
  obtain ⟨t, a1, b1⟩ := kk H.size F.heap locs Ls (kP_app _ (fun x hx => by
      obtain ⟨a, ha, rfl⟩ := List.mem_map.mp hx
      obtain ⟨i, hi, rfl⟩ := List.mem_map.mp ha
      exact hrow i (List.mem_range.mp hi)) (kP_cons f2 hP0)) (kD_app hD1 _ (by
      rw [List.nodup_iff_pairwise_ne, List.pairwise_map]
      exact (List.nodup_iff_pairwise_ne.mp List.nodup_range).imp (fun hab => by omega)) (fun a ha => by
      obtain ⟨i, hi, rfl⟩ := List.mem_map.mp ha
      refine ⟨Nat.le_trans hB (by omega), fun y hy => ?_⟩
      rcases List.mem_cons.mp hy with rfl | hy
      · show H.size ≠ _
        omega
      · have := hne y hy
        omega)) ⟨by rw [f1]; have := hS.1; omega, fun x h1 h2 => (hold x (Nat.lt_of_lt_of_le h1 hS.1)).trans (hS.2.1 x h1 h2), hS.2.2⟩ hL F rfl X'
  refine ⟨t, step t ?_, b1⟩
  have e9 : T.heap.size = H.size := by rw [hT]
  rw [e9]
  exact a1
end C80
