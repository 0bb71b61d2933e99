/-! ===== the reference's net ===== -/
/-- cells outside W and the reference's own fields outside F are as they were -/
def SmR (W F : List Nat) (mu mu' : jM) : Prop := (∀ c, c ∉ W → c ≠ 58 → mu' c = mu c) ∧ ∀ f, f ∉ F → mu' 58 f = mu 58 f
theorem SmR.rfl' {W F : List Nat} {mu : jM} : SmR W F mu mu := ⟨fun _ _ _ => rfl, fun _ _ => rfl⟩
theorem SmR.trans' {W F : List Nat} {a b c : jM} (h : SmR W F a b) (h2 : SmR W F b c) : SmR W F a c := ⟨fun k q1 q2 => (h2.1 k q1 q2).trans (h.1 k q1 q2), fun f q => (h2.2 f q).trans (h.2 f q)⟩
theorem SmR.wide {W F W2 F2 : List Nat} {a b : jM} (h : SmR W F a b) (h1 : ∀ c ∈ W, c ∈ W2) (h2 : ∀ c ∈ F, c ∈ F2) : SmR W2 F2 a b := ⟨fun k q1 q2 => h.1 k (fun z => q1 (h1 k z)) q2, fun f q => h.2 f (fun z => q (h2 f z))⟩
theorem SmR.fld {W F : List Nat} {mu : jM} {f : Nat} {v : Int32} (h : f ∈ F) : SmR W F mu (wr mu 58 f v) := ⟨fun c _ q => rd_ne mu f v q, fun g q => by
  rw [rd_at]
  exact if_neg (fun z : g = f => q (z ▸ h))⟩
theorem SmR.wr {W F : List Nat} {mu : jM} {k j : Nat} {v : Int32} (h : k ∈ W) (hk : k ≠ 58) : SmR W F mu (wr mu k j v) := ⟨fun c q _ => rd_ne mu j v (fun z => q (z ▸ h)), fun f _ => by rw [rd_ne mu j v (fun z => hk z.symm)]⟩
theorem SmR.put {W F : List Nat} {mu : jM} {k : Nat} {g : Nat → Int32} (h : k ∈ W) (hk : k ≠ 58) : SmR W F mu (jPut mu k g) := ⟨fun c q _ => put_ne mu g (fun z => q (z ▸ h)), fun f _ => by rw [put_ne mu g (fun z => hk z.symm)]⟩
/-- a link joins the two -/
def mt (e : Nat × Nat) (a b : Nat) : Bool := (e.1 == a && e.2 == b) || (e.1 == b && e.2 == a)
def pll (lk : Lk) (a : Nat) : List Nat := (List.range lk.length).filter (fun k => (lk[k]?).any (fun e => e.1 == a || e.2 == a))
theorem pll_app (lk : Lk) (x y a : Nat) : pll (lk ++ [(x, y)]) a = pll lk a ++ (if x = a ∨ y = a then [lk.length] else []) := by
  unfold pll
  rw [List.length_append, List.length_cons, List.length_nil, List.range_succ, List.filter_append]
  congr 1
  · apply List.filter_congr
    intro k hk
    rw [List.getElem?_append_left (List.mem_range.mp hk)]
  · by_cases h : x = a ∨ y = a
    · rw [if_pos h]
      simp [List.filter_cons]
      intro q
      exact h.resolve_left q
    · rw [if_neg h]
      simp [List.filter_cons]
      simpa using h
theorem nbl_pll (lk : Lk) (hne : ∀ e ∈ lk, e.1 ≠ e.2) (a : Nat) : nbl lk a = (pll lk a).map (fun k => match lk[k]? with | some e => if e.1 = a then e.2 else e.1 | none => 0) := by
  suffices H : ∀ (m : Nat) (lk : Lk), lk.length = m → (∀ e ∈ lk, e.1 ≠ e.2) → nbl lk a = (pll lk a).map (fun k => match lk[k]? with | some e => if e.1 = a then e.2 else e.1 | none => 0) from H lk.length lk rfl hne
  intro m
  induction m with
  | zero =>
    intro lk hl _
    have : lk = [] := List.length_eq_zero_iff.mp hl
    subst this
    rfl
  | succ m ih =>
    intro lk hl hne
    have hn : lk ≠ [] := fun q => by rw [q] at hl; cases hl
    obtain ⟨l0, e, rfl⟩ : ∃ l0 e, lk = l0 ++ [e] := ⟨lk.dropLast, lk.getLast hn, (List.dropLast_concat_getLast hn).symm⟩
    obtain ⟨x, y⟩ := e
    have h0 := ih l0 (by simpa using hl) (fun e he => hne e (List.mem_append_left _ he))
    have hxy : x ≠ y := hne (x, y) (by simp)
    rw [nbl_app, pll_app, List.map_append, h0]
    congr 1
    · apply List.map_congr_left
      intro k hk
      have hk2 : k < l0.length := List.mem_range.mp (List.mem_filter.mp hk).1
      rw [List.getElem?_append_left hk2]
    · by_cases h1 : x = a
      · subst h1
        simp
      · by_cases h2 : y = a
        · subst h2
          simp [h1]
        · simp [h1, h2]
theorem nbl_len (lk : Lk) (hne : ∀ e ∈ lk, e.1 ≠ e.2) (a : Nat) : (nbl lk a).length = (pll lk a).length := by rw [nbl_pll lk hne a, List.length_map]
theorem nbl_mt {lk : Lk} {a b : Nat} (hab : a ≠ b) : b ∈ nbl lk a ↔ ∃ (k : Nat) (e : Nat × Nat), lk[k]? = some e ∧ mt e a b = true := by
  rw [nbl_mem]
  constructor
  · rintro ⟨e, he, h⟩
    obtain ⟨k, hk⟩ := List.getElem?_of_mem he
    refine ⟨k, e, hk, ?_⟩
    rcases h with h | h
    · simp [mt, h.1, h.2]
    · simp [mt, h.2.1, h.2.2]
  · rintro ⟨k, e, hk, h⟩
    refine ⟨e, List.mem_of_getElem? hk, ?_⟩
    simp only [mt, Bool.or_eq_true, Bool.and_eq_true, beq_iff_eq] at h
    rcases h with h | h
    · exact Or.inl h
    · exact Or.inr ⟨fun q => hab (q.symm.trans h.1), h.2, h.1⟩
/-- two linked nodes have one link -/
theorem mt_one {n : Nat} {lk : Lk} (hok : NetOk n lk) {a b k k' : Nat} {e e' : Nat × Nat} (h : lk[k]? = some e) (h' : lk[k']? = some e') (m : mt e a b = true) (m' : mt e' a b = true) : k = k' := by
  have hp := hok.2.2.2 a
  unfold nbl at hp
  have hp := List.pairwise_filterMap.mp hp
  have f : ∀ e : Nat × Nat, mt e a b = true → (if e.1 = a then some e.2 else if e.2 = a then some e.1 else none) = some b := fun e q => by
    simp only [mt, Bool.or_eq_true, Bool.and_eq_true, beq_iff_eq] at q
    rcases q with q | q
    · rw [if_pos q.1, q.2]
    · by_cases z : e.1 = a
      · rw [if_pos z, q.2, ← z, q.1]
      · rw [if_neg z, if_pos q.2, q.1]
  obtain ⟨hk, he⟩ := List.getElem?_eq_some_iff.mp h
  obtain ⟨hk', he'⟩ := List.getElem?_eq_some_iff.mp h'
  rcases Nat.lt_trichotomy k k' with q | q | q
  · have := List.pairwise_iff_getElem.mp hp k k' hk hk' q
    rw [he, he'] at this
    exact absurd rfl (this b (f e m) b (f e' m'))
  · exact q
  · have := List.pairwise_iff_getElem.mp hp k' k hk' hk q
    rw [he, he'] at this
    exact absurd rfl (this b (f e' m') b (f e m))
def PortR (pl : Nat → List Nat) (mu : jM) : Prop := ∀ a, a < 24 → mu 61 a = nI (pl a).length ∧ ∀ p k, (pl a)[p]? = some k → mu 62 (24 * a + p) = nI k
def LnkR (lk : Lk) (mu : jM) : Prop := ∀ k e, lk[k]? = some e → mu 59 k = nI e.1 ∧ mu 60 k = nI e.2
def NetR (n : Nat) (lk : Lk) (mu : jM) : Prop := mu 58 1 = nI n ∧ mu 58 2 = nI lk.length ∧ LnkR lk mu ∧ PortR (pll lk) mu
def RunR (run : Bool) (mu : jM) : Prop := mu 58 18 = if run then 1 else 0
theorem NetR.congr {n : Nat} {lk : Lk} {mu mu' : jM} (h : NetR n lk mu) (h1 : mu' 58 1 = mu 58 1) (h2 : mu' 58 2 = mu 58 2) (hc : ∀ c, 59 ≤ c → c ≤ 62 → mu' c = mu c) : NetR n lk mu' := by
  obtain ⟨g1, g2, g3, g4⟩ := h
  refine ⟨h1.trans g1, h2.trans g2, fun k e he => ?_, fun a ha => ?_⟩
  · rw [hc 59 (by omega) (by omega), hc 60 (by omega) (by omega)]; exact g3 k e he
  · rw [hc 61 (by omega) (by omega), hc 62 (by omega) (by omega)]; exact g4 a ha
theorem NetR.same {n : Nat} {lk : Lk} {mu mu' : jM} {W F : List Nat} (h : NetR n lk mu) (hs : SmR W F mu mu') (hw : W.all (fun c => decide (c < 59 ∨ 62 < c)) = true) (hf : F.all (fun c => decide (c ≠ 1 ∧ c ≠ 2)) = true) : NetR n lk mu' :=
  h.congr (hs.2 1 (fun q => by have := List.all_eq_true.mp hf 1 q; simp at this)) (hs.2 2 (fun q => by have := List.all_eq_true.mp hf 2 q; simp at this))
    (fun c h1 h2 => hs.1 c (fun q => by have := List.all_eq_true.mp hw c q; simp at this; omega) (by omega))
/-- the last link so far that joins the two -/
def lnkTo (lk : Lk) (a b : Nat) : Nat → Int32
  | 0 => -1
  | i + 1 => if (lk[i]?).any (fun e => mt e a b) then nI i else lnkTo lk a b i
theorem lnkTo_none {lk : Lk} {a b : Nat} (h : ∀ (k : Nat) (e : Nat × Nat), lk[k]? = some e → mt e a b = false) : ∀ i, lnkTo lk a b i = -1
  | 0 => rfl
  | i + 1 => by
    unfold lnkTo
    rw [if_neg, lnkTo_none h i]
    cases q : lk[i]? with
    | none => simp
    | some e => simp [h i e q]
theorem lnkTo_some {n : Nat} {lk : Lk} (hok : NetOk n lk) {a b k : Nat} {e : Nat × Nat} (h : lk[k]? = some e) (m : mt e a b = true) : ∀ i, k < i → lnkTo lk a b i = nI k
  | 0, q => absurd q (by omega)
  | i + 1, q => by
    unfold lnkTo
    by_cases z : k = i
    · subst z
      rw [if_pos (by rw [h]; exact m)]
    · rw [if_neg, lnkTo_some hok h m i (by omega)]
      cases w : lk[i]? with
      | none => simp
      | some e' =>
        intro y
        exact z (mt_one hok h w m (by simpa using y))
section C33
variable {l : Launch} {G : jG} {mu : jM}
theorem k_isNode (hl : l.stackTraces = false) (hG : jGok G) {n : Nat} (hn : mu 58 1 = nI n) (x : Int32) : jCi l G yX8_isNode cX8_isNode 2 1 (some .boolean) [.ref 58, .int x] mu (fun v mu' => v = (if isNd n x then 1 else 0) ∧ mu' = mu) := by
  refine jCi.of (pad := 0) hl hG (by decide) (Nat.le_of_ble_eq_true rfl) (fun X h => ?_)
  show J l G X _ 2 0 [.ref 58, .int x] [] mu 0
  refine rX8_isNode_0 h (fun q => ?_) (fun q1 q2 => ?_) (fun q1 q2 => ?_)
  · refine rX8_isNode_16 h (J_iret h dX8_isNode_17 rfl ⟨?_, rfl⟩)
    rw [if_neg (fun z => z.1 q)]
  · rw [hn] at q2
    refine rX8_isNode_16 h (J_iret h dX8_isNode_17 rfl ⟨?_, rfl⟩)
    rw [if_neg (fun z => absurd q2 (Int32.not_le.mpr z.2))]
  · rw [hn] at q2
    refine J_iret h dX8_isNode_17 rfl ⟨?_, rfl⟩
    rw [if_pos ⟨q1, Int32.not_le.mp q2⟩]
theorem k_linkOf (hl : l.stackTraces = false) (hG : jGok G) {n : Nat} {lk : Lk} (hok : NetOk n lk) (h2 : mu 58 2 = nI lk.length) (hL : LnkR lk mu) {a b : Nat} (ha : a < 24) (hb : b < 24) :
    jCi l G yX8_linkOf cX8_linkOf 5 1 (some .int) [.ref 58, .int (nI a), .int (nI b)] mu (fun v mu' => v = lnkTo lk a b lk.length ∧ mu' = mu) := by
  have hlen := hok.2.1
  refine jCi.of (pad := 2) hl hG (by decide) (Nat.le_of_ble_eq_true rfl) (fun X h => ?_)
  show J l G X _ 5 0 [.ref 58, .int (nI a), .int (nI b), .float 0, .float 0] [] mu 0
  refine rX8_linkOf_0 h ?_
  have loop : ∀ (m i : Nat), i + m = lk.length → J l G X (jRi G X (fun v mu' => v = lnkTo lk a b lk.length ∧ mu' = mu)) 5 5 [.ref 58, .int (nI a), .int (nI b), .int (lnkTo lk a b i), .int (nI i)] [] mu 0 := by
    intro m
    induction m with
    | zero =>
      intro i hi
      have hi : i = lk.length := by omega
      subst hi
      refine rX8_linkOf_5 h (fun q => absurd (by rw [h2]; exact Int32.le_refl _) q) (fun q => absurd (by rw [h2]; exact Int32.le_refl _) q) (fun _ => ?_) (fun q => absurd (by rw [h2]; exact Int32.le_refl _) q) (fun q => absurd (by rw [h2]; exact Int32.le_refl _) q) (fun q => absurd (by rw [h2]; exact Int32.le_refl _) q)
      exact J_iret h dX8_linkOf_72 rfl ⟨rfl, rfl⟩
    | succ m ih =>
      intro i hi
      have hi2 : i < lk.length := by omega
      have hv : vp_in (nI i) 60 := vp_in_nI (by omega) (by omega)
      obtain ⟨e, he⟩ : ∃ e, lk[i]? = some e := ⟨_, List.getElem?_eq_getElem hi2⟩
      have hek := hok.2.2.1 e (List.mem_of_getElem? he)
      obtain ⟨g1, g2⟩ := hL i e he
      have hn24 := hok.1
      have c1 : mu 59 (nI i).toNatClampNeg = nI e.1 := by rw [nI_clamp (by omega)]; exact g1
      have c2 : mu 60 (nI i).toNatClampNeg = nI e.2 := by rw [nI_clamp (by omega)]; exact g2
      have t1 : ∀ x, x < 24 → (nI e.1 = nI x ↔ e.1 = x) := fun x hx => nI_eq (by omega) (by omega)
      have t2 : ∀ x, x < 24 → (nI e.2 = nI x ↔ e.2 = x) := fun x hx => nI_eq (by omega) (by omega)
      have yes : mt e a b = true → J l G X (jRi G X (fun v mu' => v = lnkTo lk a b lk.length ∧ mu' = mu)) 5 58 [.ref 58, .int (nI a), .int (nI b), .int (lnkTo lk a b i), .int (nI i)] [] mu 0 := fun q => by
        refine rX8_linkOf_58 h ?_
        have := ih (i + 1) (by omega)
        rw [show lnkTo lk a b (i + 1) = nI i by unfold lnkTo; rw [if_pos (by rw [he]; exact q)]] at this
        rw [nI_1]
        exact this
      have no : mt e a b = false → J l G X (jRi G X (fun v mu' => v = lnkTo lk a b lk.length ∧ mu' = mu)) 5 63 [.ref 58, .int (nI a), .int (nI b), .int (lnkTo lk a b i), .int (nI i)] [] mu 0 := fun q => by
        refine rX8_linkOf_63 h ?_
        have := ih (i + 1) (by omega)
        rw [show lnkTo lk a b (i + 1) = lnkTo lk a b i by conv => lhs; unfold lnkTo; rw [if_neg (by rw [he]; simp [q])]] at this
        rw [nI_1]
        exact this
      have second : ¬ (e.1 = a ∧ e.2 = b) → J l G X (jRi G X (fun v mu' => v = lnkTo lk a b lk.length ∧ mu' = mu)) 5 36 [.ref 58, .int (nI a), .int (nI b), .int (lnkTo lk a b i), .int (nI i)] [] mu 0 := fun z => by
        refine rX8_linkOf_36 h hv (fun _ => hv) (fun q => no ?_) (fun q1 q2 => no ?_) (fun q1 q2 => yes ?_)
        · rw [c1, t1 b hb] at q
          simp only [mt, Bool.or_eq_false_iff, Bool.and_eq_false_iff, beq_eq_false_iff_ne]
          refine ⟨?_, Or.inl q⟩
          rcases Classical.em (e.1 = a) with w | w
          · exact Or.inr (fun y => z ⟨w, y⟩)
          · exact Or.inl w
        · rw [c2, t2 a ha] at q2
          simp only [mt, Bool.or_eq_false_iff, Bool.and_eq_false_iff, beq_eq_false_iff_ne]
          refine ⟨?_, Or.inr q2⟩
          rcases Classical.em (e.1 = a) with w | w
          · exact Or.inr (fun y => z ⟨w, y⟩)
          · exact Or.inl w
        · rw [c1, t1 b hb] at q1
          rw [c2, t2 a ha] at q2
          simp [mt, q1, q2]
      have hnle : ¬ nI lk.length ≤ nI i := fun q => absurd ((nI_leI (by omega) (by omega)).mp q) (by omega)
      refine rX8_linkOf_5 h (fun _ => hv) (fun _ _ => hv) (fun q => absurd (by rw [← h2]; exact q) hnle) (fun _ q2 => second ?_) (fun _ q2 q3 => yes ?_) (fun _ q2 q3 => second ?_)
      · rw [c1, t1 a ha] at q2
        exact fun y => q2 y.1
      · rw [c1, t1 a ha] at q2
        rw [c2, t2 b hb] at q3
        simp [mt, q2, q3]
      · rw [c2, t2 b hb] at q3
        exact fun y => q3 y.2
  exact loop lk.length 0 (by omega)
theorem k_addPort (hl : l.stackTraces = false) (hG : jGok G) {pl : Nat → List Nat} {a k : Nat} (ha : a < 24) (hP : PortR pl mu) (hlen : ∀ x, (pl x).length ≤ 24) (hlen2 : (pl a).length < 24) :
    jCv l G yX8_addPort cX8_addPort 3 1 [.ref 58, .int (nI a), .int (nI k)] mu (fun mu' => PortR (fun x => if x = a then pl a ++ [k] else pl x) mu' ∧ SmR [61, 62] [] mu mu') := by
  obtain ⟨p, hp⟩ : ∃ p, p = (pl a).length := ⟨_, rfl⟩
  have e9 : mu 61 (nI a).toNatClampNeg = nI p := by rw [nI_clamp (by omega), hp]; exact (hP a ha).1
  have i1 : 24 * nI a + nI p = nI (24 * a + p) := by rw [show (24 : Int32) = nI 24 from rfl, pk_mul, nI_add]
  have hv : vp_in (nI a) 24 := vp_in_nI ha (by omega)
  refine jCv.of (pad := 0) hl hG (by decide) (Nat.le_of_ble_eq_true rfl) (fun X h => ?_)
  show J l G X _ 3 0 [.ref 58, .int (nI a), .int (nI k)] [] mu 0
  refine rX8_addPort_0 h hv (by rw [e9, i1]; exact vp_in_nI (by omega) (by omega)) hv hv ?_
  refine J_vret h dX8_addPort_27 ?_
  rw [e9, i1, nI_clamp (by omega : 24 * a + p < 2 ^ 31), nI_clamp (by omega : a < 2 ^ 31), nI_1]
  refine ⟨fun x hx => ?_, (SmR.wr (by decide) (by decide)).trans' (SmR.wr (by decide) (by decide))⟩
  show upd (mu 61) a (nI (p + 1)) x = _ ∧ ∀ p' k', _ → upd (mu 62) (24 * a + p) (nI k) (24 * x + p') = _
  obtain ⟨g1, g2⟩ := hP x hx
  by_cases q : x = a
  · subst q
    simp only [if_true, upd]
    refine ⟨by rw [List.length_append, ← hp]; rfl, fun p' k' hk' => ?_⟩
    rw [List.getElem?_append] at hk'
    split at hk'
    · rw [if_neg (by omega)]
      exact g2 p' k' hk'
    · have : p' = p := by
        rcases Nat.lt_or_ge p' ((pl x).length + 1) with z | z
        · omega
        · rw [List.getElem?_eq_none (by simp; omega)] at hk'; cases hk'
      subst this
      rw [← hp, Nat.sub_self] at hk'
      simp at hk'
      subst hk'
      simp
  · simp only [if_neg q, upd]
    refine ⟨g1, fun p' k' hk' => ?_⟩
    have hp' : p' < 24 := Nat.lt_of_lt_of_le (List.getElem?_eq_some_iff.mp hk').1 (hlen x)
    rw [if_neg (by omega)]
    exact g2 p' k' hk'
end C33
