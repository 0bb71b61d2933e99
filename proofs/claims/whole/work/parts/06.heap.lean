/-! ===== J over the cells: fields, arrays, the static tables, returns, contracts, calls ===== -/
theorem jE_obj (ad : Nat → Nat) (cA : Nat → ClassId) (f : Nat → Int32) (ci : Nat) (fl : List (Option Nat)) : jE ad cA f (.inl (ci, fl)) = .inr (ci, jF ad f 0 fl) := rfl
theorem jE_i (ad : Nat → Nat) (cA : Nat → ClassId) (f : Nat → Int32) (N : Nat) (rf : Nat → Option Nat) : jE ad cA f (.inr (0, N, rf)) = .inl (cA 0, (N, .inl f)) := rfl
theorem jE_z (ad : Nat → Nat) (cA : Nat → ClassId) (f : Nat → Int32) (N : Nat) (rf : Nat → Option Nat) : jE ad cA f (.inr (1, N, rf)) = .inl (cA 1, (N, .inl f)) := rfl
theorem jE_l (ad : Nat → Nat) (cA : Nat → ClassId) (f : Nat → Int32) (N : Nat) (rf : Nat → Option Nat) : jE ad cA f (.inr (2, N, rf)) = .inl (cA 2, (N, .inr (.inl (fun j => (f j).toInt64)))) := rfl
theorem jE_q (ad : Nat → Nat) (cA : Nat → ClassId) (f : Nat → Int32) (N : Nat) (rf : Nat → Option Nat) : jE ad cA f (.inr (3, N, rf)) = .inl (cA 3, (N, .inr (.inr (.inr (.inr (fun j => (rf j).map ad)))))) := rfl
/-- a class's row among the worlds' classes, its fields' words in the tables -/
def jC (ci : Nat) (C : String) (T : u_T) (N : Nat) : Prop := vwCl[ci]? = some (C, T, N) ∧ (∀ w ∈ u_ws C T N, w ∈ jT)
section JH
variable {l : Launch} {G : jG} {X : jX} {Q : State → Prop} {cc : ByteArray} {nL pc n hg nc : Nat} {ret : Option FieldType} {own : String} {ls st : List Value} {mu : jM}
theorem J_getr {idx a r k N ci : Nat} {C : String} {T : u_T} {fl : List (Option Nat)} (h : jOk l G X cc nL ret own hg nc) (d : decode cc pc = .ok (.getfield idx, 3)) (hC : jC ci C T N) (hd : jShp[a]? = some (.inl (ci, fl))) (hk : fl[k]? = some (some r)) (hN : k < N) (hw : Cond.fieldLink own idx (T k).1 (T k).2.1 (T k).2.2.1 ∈ jT) (kk : J l G X Q nL (pc + 3) ls (.ref r :: st) mu n) : J l G X Q nL pc ls (.ref a :: st) mu n := by
  obtain ⟨⟨p, e, R, s⟩, m, args, below, meth, c⟩ := X
  intro H locs Ls hP hS hL
  exact va_get h.1 h.2.1 h.2.2.2.2.1 hC.2 h.2.2.2.1 h.2.2.2.2.2.1.1 hP a (jW_at hd) hC.1 k hN (h.2.2.2.2.1 _ hw) (fun _ h9 => h9) (jF_ref hk) d (kk H locs Ls hP hS hL)
theorem J_geti {idx a k N ci : Nat} {C : String} {T : u_T} {fl : List (Option Nat)} (h : jOk l G X cc nL ret own hg nc) (d : decode cc pc = .ok (.getfield idx, 3)) (hC : jC ci C T N) (hd : jShp[a]? = some (.inl (ci, fl))) (hk : fl[k]? = some none) (hN : k < N) (hw : Cond.fieldLink own idx (T k).1 (T k).2.1 (T k).2.2.1 ∈ jT) (kk : J l G X Q nL (pc + 3) ls (.int (mu a k) :: st) mu n) : J l G X Q nL pc ls (.ref a :: st) mu n := by
  obtain ⟨⟨p, e, R, s⟩, m, args, below, meth, c⟩ := X
  intro H locs Ls hP hS hL
  have hv := jF_int (ad := G.1) (f := mu a) (i := 0) hk
  rw [Nat.zero_add] at hv
  exact va_get h.1 h.2.1 h.2.2.2.2.1 hC.2 h.2.2.2.1 h.2.2.2.2.2.1.1 hP a (jW_at hd) hC.1 k hN (h.2.2.2.2.1 _ hw) (fun _ h9 => h9) hv d (kk H locs Ls hP hS hL)
theorem J_getrN {idx a r k N ci : Nat} {C host : String} {T : u_T} {fl : List (Option Nat)} (h : jOk l G X cc nL ret own hg nc) (d : decode cc pc = .ok (.getfield idx, 3)) (hC : jC ci C T N) (hd : jShp[a]? = some (.inl (ci, fl))) (hk : fl[k]? = some (some r)) (hN : k < N) (hw : Cond.fieldLinkNest own idx (T k).1 (T k).2.1 (T k).2.2.1 host ∈ jN) (kk : J l G X Q nL (pc + 3) ls (.ref r :: st) mu n) : J l G X Q nL pc ls (.ref a :: st) mu n := by
  obtain ⟨⟨p, e, R, s⟩, m, args, below, meth, c⟩ := X
  intro H locs Ls hP hS hL
  exact va_getN h.1 h.2.1 h.2.2.2.2.1 hC.2 h.2.2.2.1 h.2.2.2.2.2.1.1 hP a (jW_at hd) hC.1 k hN (va_Nw.use rfl (h.2.2.2.2.2.1.2.1 _ hw)) (fun _ h9 => h9) (jF_ref hk) d (kk H locs Ls hP hS hL)
theorem J_getiN {idx a k N ci : Nat} {C host : String} {T : u_T} {fl : List (Option Nat)} (h : jOk l G X cc nL ret own hg nc) (d : decode cc pc = .ok (.getfield idx, 3)) (hC : jC ci C T N) (hd : jShp[a]? = some (.inl (ci, fl))) (hk : fl[k]? = some none) (hN : k < N) (hw : Cond.fieldLinkNest own idx (T k).1 (T k).2.1 (T k).2.2.1 host ∈ jN) (kk : J l G X Q nL (pc + 3) ls (.int (mu a k) :: st) mu n) : J l G X Q nL pc ls (.ref a :: st) mu n := by
  obtain ⟨⟨p, e, R, s⟩, m, args, below, meth, c⟩ := X
  intro H locs Ls hP hS hL
  have hv := jF_int (ad := G.1) (f := mu a) (i := 0) hk
  rw [Nat.zero_add] at hv
  exact va_getN h.1 h.2.1 h.2.2.2.2.1 hC.2 h.2.2.2.1 h.2.2.2.2.2.1.1 hP a (jW_at hd) hC.1 k hN (va_Nw.use rfl (h.2.2.2.2.2.1.2.1 _ hw)) (fun _ h9 => h9) hv d (kk H locs Ls hP hS hL)
theorem jF_wr {ad : Nat → Nat} {cA : Nat → ClassId} {mu : jM} {a k ci : Nat} {fl : List (Option Nat)} {v : Int32} (hd : jShp[a]? = some (.inl (ci, fl))) (hk : fl[k]? = some none) : (jW ad cA mu).set a (ad a, .inr (ci, (jF ad (mu a) 0 fl).set k (.int v))) = jW ad cA (wr mu a k v) := by
  rw [jF_set hk, Nat.zero_add, ← jE_obj ad cA]
  exact jW_set hd
theorem J_puti {idx a k N ci : Nat} {C : String} {T : u_T} {fl : List (Option Nat)} {v : Int32} {ty0 : Nat → FieldType} (h : jOk l G X cc nL ret own hg nc) (d : decode cc pc = .ok (.putfield idx, 3)) (hC : jC ci C T N) (hty : ∀ k, k < N → parseFieldDescriptor (T k).2.2.1 = some (ty0 k)) (hnm : ∀ a, a < N → ∀ b, b < N → a ≠ b → (T a).2.1 ≠ (T b).2.1) (hd : jShp[a]? = some (.inl (ci, fl))) (hk : fl[k]? = some none) (hN : k < N) (hf : (T k).2.2.2 = false) (hn : narrow (ty0 k) (.int v) = .int v) (hfit : fits (ty0 k) (.int v) = true) (hw : Cond.fieldLink own idx (T k).1 (T k).2.1 (T k).2.2.1 ∈ jT) (kk : J l G X Q nL (pc + 3) ls st (wr mu a k v) n) : J l G X Q nL pc ls (.int v :: .ref a :: st) mu n := by
  obtain ⟨⟨p, e, R, s⟩, m, args, below, meth, c⟩ := X
  intro H locs Ls hP hS hL
  have hlen : k < (jF G.1 (mu a) 0 fl).length := by rw [jF_len]; exact (List.getElem?_eq_some_iff.mp hk).1
  refine va_put h.1 h.2.1 h.2.2.2.2.1 hC.2 ty0 hty hnm h.2.2.2.1 h.2.2.2.2.2.1.1 hP (h.2.2.2.2.2.2.1 mu) hS a (jW_at hd) hC.1 k hN (h.2.2.2.2.1 _ hw) (fun _ h9 => h9) hf (hty k hN) hn hfit hlen d (fun H1 locs1 hP1 _ hS1 => ?_)
  replace hP1 : va_P G.2.2.1 vwCl ((jW G.1 G.2.1 mu).set a (G.1 a, .inr (ci, (jF G.1 (mu a) 0 fl).set k (.int v)))) H1 := hP1
  rw [jF_wr hd hk] at hP1
  exact kk H1 locs1 Ls hP1 hS1 hL
theorem J_putiN {idx a k N ci : Nat} {C host : String} {T : u_T} {fl : List (Option Nat)} {v : Int32} {ty0 : Nat → FieldType} (h : jOk l G X cc nL ret own hg nc) (d : decode cc pc = .ok (.putfield idx, 3)) (hC : jC ci C T N) (hty : ∀ k, k < N → parseFieldDescriptor (T k).2.2.1 = some (ty0 k)) (hnm : ∀ a, a < N → ∀ b, b < N → a ≠ b → (T a).2.1 ≠ (T b).2.1) (hd : jShp[a]? = some (.inl (ci, fl))) (hk : fl[k]? = some none) (hN : k < N) (hf : (T k).2.2.2 = false) (hn : narrow (ty0 k) (.int v) = .int v) (hfit : fits (ty0 k) (.int v) = true) (hw : Cond.fieldLinkNest own idx (T k).1 (T k).2.1 (T k).2.2.1 host ∈ jN) (kk : J l G X Q nL (pc + 3) ls st (wr mu a k v) n) : J l G X Q nL pc ls (.int v :: .ref a :: st) mu n := by
  obtain ⟨⟨p, e, R, s⟩, m, args, below, meth, c⟩ := X
  intro H locs Ls hP hS hL
  have hlen : k < (jF G.1 (mu a) 0 fl).length := by rw [jF_len]; exact (List.getElem?_eq_some_iff.mp hk).1
  refine va_putN h.1 h.2.1 h.2.2.2.2.1 hC.2 ty0 hty hnm h.2.2.2.1 h.2.2.2.2.2.1.1 hP (h.2.2.2.2.2.2.1 mu) hS a (jW_at hd) hC.1 k hN (va_Nw.use rfl (h.2.2.2.2.2.1.2.1 _ hw)) (fun _ h9 => h9) hf (hty k hN) hn hfit hlen d (fun H1 locs1 hP1 _ hS1 => ?_)
  replace hP1 : va_P G.2.2.1 vwCl ((jW G.1 G.2.1 mu).set a (G.1 a, .inr (ci, (jF G.1 (mu a) 0 fl).set k (.int v)))) H1 := hP1
  rw [jF_wr hd hk] at hP1
  exact kk H1 locs1 Ls hP1 hS1 hL
theorem J_iald {a N : Nat} {rf : Nat → Option Nat} {i : Int32} (h : jOk l G X cc nL ret own hg nc) (d : decode cc pc = .ok (.iaload, 1)) (hd : jShp[a]? = some (.inr (0, N, rf))) (hi : vp_in i N) (kk : J l G X Q nL (pc + 1) ls (.int (mu a i.toNatClampNeg) :: st) mu n) : J l G X Q nL pc ls (.int i :: .ref a :: st) mu n := by
  obtain ⟨⟨p, e, R, s⟩, m, args, below, meth, c⟩ := X
  intro H locs Ls hP hS hL
  exact va_iald h.1 h.2.1 h.2.2.2.2.2.1.1 hP a 0 (jW_at hd) rfl hi d (kk H locs Ls hP hS hL)
theorem J_zald {a N : Nat} {rf : Nat → Option Nat} {i : Int32} (h : jOk l G X cc nL ret own hg nc) (d : decode cc pc = .ok (.baload, 1)) (hd : jShp[a]? = some (.inr (1, N, rf))) (hi : vp_in i N) (kk : J l G X Q nL (pc + 1) ls (.int (mu a i.toNatClampNeg) :: st) mu n) : J l G X Q nL pc ls (.int i :: .ref a :: st) mu n := by
  obtain ⟨⟨p, e, R, s⟩, m, args, below, meth, c⟩ := X
  intro H locs Ls hP hS hL
  exact va_zald h.1 h.2.1 h.2.2.2.2.2.1.1 hP a 1 (jW_at hd) rfl hi d (kk H locs Ls hP hS hL)
theorem J_lald {a N : Nat} {rf : Nat → Option Nat} {i : Int32} (h : jOk l G X cc nL ret own hg nc) (d : decode cc pc = .ok (.laload, 1)) (hd : jShp[a]? = some (.inr (2, N, rf))) (hi : vp_in i N) (kk : J l G X Q nL (pc + 1) ls (.long (mu a i.toNatClampNeg).toInt64 :: st) mu n) : J l G X Q nL pc ls (.int i :: .ref a :: st) mu n := by
  obtain ⟨⟨p, e, R, s⟩, m, args, below, meth, c⟩ := X
  intro H locs Ls hP hS hL
  exact va_lald h.1 h.2.1 h.2.2.2.2.2.1.1 hP a 2 (jW_at hd) rfl hi d (kk H locs Ls hP hS hL)
theorem J_aald {a N r : Nat} {rf : Nat → Option Nat} {i : Int32} (h : jOk l G X cc nL ret own hg nc) (d : decode cc pc = .ok (.aaload, 1)) (hd : jShp[a]? = some (.inr (3, N, rf))) (hi : vp_in i N) (hr : rf i.toNatClampNeg = some r) (kk : J l G X Q nL (pc + 1) ls (.ref r :: st) mu n) : J l G X Q nL pc ls (.int i :: .ref a :: st) mu n := by
  obtain ⟨⟨p, e, R, s⟩, m, args, below, meth, c⟩ := X
  intro H locs Ls hP hS hL
  have hlt : i.toNatClampNeg < N := Nat.not_le.mp fun q => hi (Or.inr q)
  have hcell : H[G.1 a]? = some (arrV (G.2.1 3) N (fun j => va_rf ((rf j).map G.1))) := hP a _ (jW_at hd)
  have hK := (h.2.2.2.2.2.1.1.2 3 (G.2.1 3, .array .int) rfl).1 N (fun j => va_rf ((rf j).map G.1))
  exact W.aald (v := .ref (G.1 r)) (ty := .array .int) h.1 h.2.1 hcell hK rfl (fun q => by cases q) (by rw [arrV_size]; exact hi) (by rw [arrV_read _ _ hlt, hr]; rfl) rfl rfl d (kk H locs Ls hP hS hL)
theorem J_iast {a N : Nat} {rf : Nat → Option Nat} {i v : Int32} (h : jOk l G X cc nL ret own hg nc) (d : decode cc pc = .ok (.iastore, 1)) (hd : jShp[a]? = some (.inr (0, N, rf))) (hi : vp_in i N) (kk : J l G X Q nL (pc + 1) ls st (wr mu a i.toNatClampNeg v) n) : J l G X Q nL pc ls (.int v :: .int i :: .ref a :: st) mu n := by
  obtain ⟨⟨p, e, R, s⟩, m, args, below, meth, c⟩ := X
  intro H locs Ls hP hS hL
  refine va_iast h.1 h.2.1 h.2.2.2.2.2.1.1 hP (h.2.2.2.2.2.2.1 mu) hS a 0 (jW_at hd) rfl hi d (fun H1 locs1 hP1 _ hS1 => ?_)
  rw [← jE_i G.1 G.2.1 _ N rf, jW_set hd] at hP1
  exact kk H1 locs1 Ls hP1 hS1 hL
theorem J_zast {a N : Nat} {rf : Nat → Option Nat} {i v : Int32} (h : jOk l G X cc nL ret own hg nc) (d : decode cc pc = .ok (.bastore, 1)) (hd : jShp[a]? = some (.inr (1, N, rf))) (hi : vp_in i N) (kk : J l G X Q nL (pc + 1) ls st (wr mu a i.toNatClampNeg (vp_nar .boolean v)) n) : J l G X Q nL pc ls (.int v :: .int i :: .ref a :: st) mu n := by
  obtain ⟨⟨p, e, R, s⟩, m, args, below, meth, c⟩ := X
  intro H locs Ls hP hS hL
  refine va_zast h.1 h.2.1 h.2.2.2.2.2.1.1 hP (h.2.2.2.2.2.2.1 mu) hS a 1 (jW_at hd) rfl hi d (fun H1 locs1 hP1 _ hS1 => ?_)
  rw [← jE_z G.1 G.2.1 _ N rf, jW_set hd] at hP1
  exact kk H1 locs1 Ls hP1 hS1 hL
theorem J_last {a N : Nat} {rf : Nat → Option Nat} {i v : Int32} (h : jOk l G X cc nL ret own hg nc) (d : decode cc pc = .ok (.lastore, 1)) (hd : jShp[a]? = some (.inr (2, N, rf))) (hi : vp_in i N) (kk : J l G X Q nL (pc + 1) ls st (wr mu a i.toNatClampNeg v) n) : J l G X Q nL pc ls (.long v.toInt64 :: .int i :: .ref a :: st) mu n := by
  obtain ⟨⟨p, e, R, s⟩, m, args, below, meth, c⟩ := X
  intro H locs Ls hP hS hL
  refine va_last h.1 h.2.1 h.2.2.2.2.2.1.1 hP (h.2.2.2.2.2.2.1 mu) hS a 2 (jW_at hd) rfl hi d (fun H1 locs1 hP1 _ hS1 => ?_)
  rw [show vp_updL (fun j => (mu a j).toInt64) i.toNatClampNeg v.toInt64 = (fun j => (upd (mu a) i.toNatClampNeg v j).toInt64) by funext j; simp only [vp_updL, upd]; split <;> rfl, ← jE_l G.1 G.2.1 _ N rf, jW_set hd] at hP1
  exact kk H1 locs1 Ls hP1 hS1 hL
theorem J_alen {a N : Nat} {rf : Nat → Option Nat} {v : Int32} (h : jOk l G X cc nL ret own hg nc) (d : decode cc pc = .ok (.arraylength, 1)) (hd : jShp[a]? = some (.inr (0, N, rf))) (hv : Int32.ofNat N = v) (kk : J l G X Q nL (pc + 1) ls (.int v :: st) mu n) : J l G X Q nL pc ls (.ref a :: st) mu n := by
  obtain ⟨⟨p, e, R, s⟩, m, args, below, meth, c⟩ := X
  intro H locs Ls hP hS hL
  exact va_alen h.1 h.2.1 h.2.2.2.2.2.1.1 hP a 0 (jW_at hd) (ty := .int) rfl hv d (kk H locs Ls hP hS hL)
/-- a built-in table: its reference, its ints, its length -/
theorem J_gets {idx k : Nat} (h : jOk l G X cc nL ret own hg nc) (d : decode cc pc = .ok (.getstatic idx, 3)) (hk : k < 5) (hw : Cond.fieldLink own idx RX4 (jSn k) "[I" ∈ jT) (kk : J l G X Q nL (pc + 3) ls (.ref (1000 + k) :: st) mu n) : J l G X Q nL pc ls st mu n := by
  obtain ⟨⟨p, e, R, s⟩, m, args, below, meth, c⟩ := X
  intro H locs Ls hP hS hL
  exact va_gets h.1 h.2.1 (h.2.2.2.2.2.1.2.2.1 k hk).1 hS h.2.2.2.1 (h.2.2.2.2.1 _ hw) (fun _ h9 => h9) d (kk H locs Ls hP hS hL)
theorem J_sald {k : Nat} {i : Int32} (h : jOk l G X cc nL ret own hg nc) (d : decode cc pc = .ok (.iaload, 1)) (hk : k < 5) (hi : vp_in i (jSl k)) (kk : J l G X Q nL (pc + 1) ls (.int (jSt k i.toNatClampNeg) :: st) mu n) : J l G X Q nL pc ls (.int i :: .ref (1000 + k) :: st) mu n := by
  obtain ⟨⟨p, e, R, s⟩, m, args, below, meth, c⟩ := X
  intro H locs Ls hP hS hL
  exact va_ti h.1 h.2.1 (h.2.2.2.2.2.1.2.2.1 k hk).2 hS hi rfl d (kk H locs Ls hP hS hL)
theorem J_slen {k : Nat} {v : Int32} (h : jOk l G X cc nL ret own hg nc) (d : decode cc pc = .ok (.arraylength, 1)) (hk : k < 5) (hv : Int32.ofNat (jSl k) = v) (kk : J l G X Q nL (pc + 1) ls (.int v :: st) mu n) : J l G X Q nL pc ls (.ref (1000 + k) :: st) mu n := by
  obtain ⟨⟨p, e, R, s⟩, m, args, below, meth, c⟩ := X
  intro H locs Ls hP hS hL
  exact va_tlen h.1 h.2.1 (h.2.2.2.2.2.1.2.2.1 k hk).2 hS hv d (kk H locs Ls hP hS hL)
end JH
