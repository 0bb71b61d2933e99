/-! ===== sets of nodes as bits; the net ===== -/
theorem b_1 : ∀ i, i < 32 → bt 1 i = decide (i = 0) := by decide +kernel
theorem bt_test (x : Int32) {k : Nat} (hk : k < 32) : ((x >>> (nI k &&& 31)) &&& 1) = 0 ↔ bt x k = false := by
  have e : bt ((x >>> (nI k &&& 31)) &&& 1) 0 = bt x k := by
    rw [b_and, b_sshr k hk x (by omega), b_1 0 (by omega), if_pos (by omega)]
    simp
  constructor
  · intro h
    rw [h, b_0] at e
    exact e.symm
  · intro h
    apply b_ext
    intro i hi
    rw [b_0, b_and, b_1 i hi]
    by_cases h0 : i = 0
    · subst h0
      rw [b_sshr k hk x (by omega), if_pos (by omega)]
      simp [h]
    · simp [h0]
theorem bt_test1 (x : Int32) {k : Nat} (hk : k < 32) : ¬ ((x >>> (nI k &&& 31)) &&& 1) = 0 ↔ bt x k = true := by
  rw [bt_test x hk]; simp
theorem bt_one {k : Nat} (hk : k < 32) {i : Nat} (hi : i < 32) : bt (1 <<< (nI k &&& 31)) i = decide (i = k) := by
  rw [b_shl k hk 1 hi]
  by_cases h : k ≤ i
  · rw [b_1 _ (by omega)]
    simp [h]
    omega
  · simp [h]
    omega
theorem bt_set (x : Int32) {k : Nat} (hk : k < 32) {i : Nat} (hi : i < 32) : bt (x ||| (1 <<< (nI k &&& 31))) i = (bt x i || decide (i = k)) := by
  rw [b_or, bt_one hk hi]
theorem bt_not (x : Int32) {i : Nat} (hi : i < 32) : bt (x ^^^ (-1)) i = !bt x i := by
  rw [b_xor, b_m1 i hi]; simp
/-- the set of a list -/
def msk (l : List Nat) : Int32 := l.foldl (fun x b => x ||| (1 <<< (nI b &&& 31))) 0
theorem msk_app (l : List Nat) (b : Nat) : msk (l ++ [b]) = msk l ||| (1 <<< (nI b &&& 31)) := by
  unfold msk; rw [List.foldl_append]; rfl
theorem bt_fold (l : List Nat) : ∀ (x : Int32), (∀ b ∈ l, b < 32) → ∀ {i : Nat}, i < 32 → bt (l.foldl (fun x b => x ||| (1 <<< (nI b &&& 31))) x) i = (bt x i || decide (i ∈ l)) := by
  induction l with
  | nil => intro x _ i _; simp
  | cons b t ih =>
    intro x h i hi
    rw [List.foldl_cons, ih _ (fun c hc => h c (List.mem_cons_of_mem _ hc)) hi, bt_set x (h b List.mem_cons_self) hi, Bool.or_assoc]
    congr 1
    simp [List.mem_cons]
theorem bt_msk {l : List Nat} (h : ∀ b ∈ l, b < 32) {i : Nat} (hi : i < 32) : bt (msk l) i = decide (i ∈ l) := by
  unfold msk; rw [bt_fold l 0 h hi, b_0, Bool.false_or]
/-- the cells outside a list are as they were -/
def Same (W : List Nat) (mu mu' : jM) : Prop := ∀ c, c ∉ W → mu' c = mu c
theorem Same.rfl' {W : List Nat} {mu : jM} : Same W mu mu := fun _ _ => rfl
theorem Same.trans' {W : List Nat} {a b c : jM} (h : Same W a b) (h2 : Same W b c) : Same W a c := fun k hk => (h2 k hk).trans (h k hk)
theorem Same.wide {W W2 : List Nat} {a b : jM} (h : Same W a b) (hs : ∀ c ∈ W, c ∈ W2) : Same W2 a b := fun k hk => h k (fun q => hk (hs k q))
theorem Same.wr {W : List Nat} {mu : jM} {k j : Nat} {v : Int32} (h : k ∈ W) : Same W mu (wr mu k j v) := fun c hc => rd_ne mu j v (fun q => hc (q ▸ h))
theorem Same.put {W : List Nat} {mu : jM} {k : Nat} {f : Nat → Int32} (h : k ∈ W) : Same W mu (jPut mu k f) := fun c hc => put_ne mu f (fun q => hc (q ▸ h))
/-- a list without repeats, of numbers below m, has at most m -/
theorem nd_len {l : List Nat} {m : Nat} (h : l.Nodup) (hb : ∀ b ∈ l, b < m) : l.length ≤ m := by
  refine fb_holes m l.length (fun i => l.getD i 0) (fun i hi => ?_) (fun i j hij hj => ?_)
  · show l.getD i 0 < m
    rw [List.getD_eq_getElem?_getD, List.getElem?_eq_getElem hi]
    exact hb _ (List.getElem_mem hi)
  · show l.getD i 0 ≠ l.getD j 0
    rw [List.getD_eq_getElem?_getD, List.getD_eq_getElem?_getD, List.getElem?_eq_getElem hj, List.getElem?_eq_getElem (by omega : i < l.length)]
    exact List.pairwise_iff_getElem.mp h i j (by omega) hj hij
/-- links, in their order; a node's neighbours in the order of its ports -/
abbrev Lk : Type := List (Nat × Nat)
def nbl (lk : Lk) (a : Nat) : List Nat := lk.filterMap (fun e => if e.1 = a then some e.2 else if e.2 = a then some e.1 else none)
theorem nbl_app (lk : Lk) (x y a : Nat) : nbl (lk ++ [(x, y)]) a = nbl lk a ++ (if x = a then [y] else if y = a then [x] else []) := by
  unfold nbl
  rw [List.filterMap_append]
  congr 1
  by_cases h : x = a
  · simp [h]
  · by_cases h2 : y = a
    · simp [h, h2]
    · simp [h, h2]
theorem nbl_mem {lk : Lk} {a b : Nat} : b ∈ nbl lk a ↔ ∃ e ∈ lk, (e.1 = a ∧ e.2 = b) ∨ (e.1 ≠ a ∧ e.2 = a ∧ e.1 = b) := by
  unfold nbl
  rw [List.mem_filterMap]
  constructor
  · rintro ⟨e, he, h⟩
    refine ⟨e, he, ?_⟩
    by_cases h1 : e.1 = a
    · rw [if_pos h1] at h; cases h; exact Or.inl ⟨h1, rfl⟩
    · rw [if_neg h1] at h
      by_cases h2 : e.2 = a
      · rw [if_pos h2] at h; cases h; exact Or.inr ⟨h1, h2, rfl⟩
      · rw [if_neg h2] at h; cases h
  · rintro ⟨e, he, h | h⟩
    · exact ⟨e, he, by rw [if_pos h.1, h.2]⟩
    · exact ⟨e, he, by rw [if_neg h.1, if_pos h.2.1, h.2.2]⟩
def NetOk (n : Nat) (lk : Lk) : Prop := n ≤ 24 ∧ lk.length ≤ 60 ∧ (∀ e ∈ lk, e.1 < n ∧ e.2 < n ∧ e.1 ≠ e.2) ∧ ∀ a, (nbl lk a).Nodup
theorem NetOk.nb {n : Nat} {lk : Lk} (h : NetOk n lk) {a b : Nat} (hb : b ∈ nbl lk a) : a < n ∧ b < n ∧ a ≠ b := by
  obtain ⟨e, he, q | q⟩ := nbl_mem.mp hb
  · have := h.2.2.1 e he
    rw [q.1, q.2] at this
    exact this
  · have := h.2.2.1 e he
    rw [q.2.1, q.2.2] at this
    exact ⟨this.2.1, this.1, fun z => this.2.2 z.symm⟩
theorem nbl_symm {lk : Lk} {a b : Nat} (h : b ∈ nbl lk a) (hne : ∀ e ∈ lk, e.1 ≠ e.2) : a ∈ nbl lk b := by
  obtain ⟨e, he, q | q⟩ := nbl_mem.mp h
  · exact nbl_mem.mpr ⟨e, he, Or.inr ⟨fun z => hne e he (by rw [z, q.2]), q.2, q.1⟩⟩
  · exact nbl_mem.mpr ⟨e, he, Or.inl ⟨q.2.2, q.2.1⟩⟩
/-- the class's rows of ports -/
def PortC (nb : Nat → List Nat) (mu : jM) : Prop := ∀ a, a < 24 → mu 9 a = nI (nb a).length ∧ mu 10 a = msk (nb a) ∧ ∀ p b, (nb a)[p]? = some b → mu 11 (a * 24 + p) = nI b ∧ mu 12 (a * 24 + b) = nI p
def NetC (n : Nat) (lk : Lk) (mu : jM) : Prop := mu 6 0 = nI n ∧ mu 6 1 = nI lk.length ∧ (∀ k e, lk[k]? = some e → mu 7 k = nI e.1 ∧ mu 8 k = nI e.2) ∧ PortC (nbl lk) mu
theorem PortC.congr {nb : Nat → List Nat} {mu mu' : jM} (h : PortC nb mu) (h9 : mu' 9 = mu 9) (h10 : mu' 10 = mu 10) (h11 : mu' 11 = mu 11) (h12 : mu' 12 = mu 12) : PortC nb mu' := by
  intro a ha
  rw [h9, h10, h11, h12]
  exact h a ha
theorem NetC.congr {n : Nat} {lk : Lk} {mu mu' : jM} (h : NetC n lk mu) (hc : ∀ c, 6 ≤ c → c ≤ 12 → mu' c = mu c) : NetC n lk mu' := by
  obtain ⟨h1, h2, h3, h4⟩ := h
  refine ⟨by rw [hc 6 (by omega) (by omega)]; exact h1, by rw [hc 6 (by omega) (by omega)]; exact h2, fun k e he => ?_, h4.congr (hc 9 (by omega) (by omega)) (hc 10 (by omega) (by omega)) (hc 11 (by omega) (by omega)) (hc 12 (by omega) (by omega))⟩
  rw [hc 7 (by omega) (by omega), hc 8 (by omega) (by omega)]
  exact h3 k e he
theorem NetC.same {n : Nat} {lk : Lk} {mu mu' : jM} {W : List Nat} (h : NetC n lk mu) (hs : Same W mu mu') (hw : W.all (fun c => decide (c < 6 ∨ 12 < c)) = true) : NetC n lk mu' :=
  h.congr (fun c h1 h2 => hs c (fun q => by have := List.all_eq_true.mp hw c q; simp at this; omega))
section C31
variable {l : Launch} {G : jG} {mu : jM}
theorem c_empty (hl : l.stackTraces = false) (hG : jGok G) {n : Nat} (hn : n ≤ 24) : jCv l G yX2_empty cX2_empty 2 2 [.ref 6, .int (nI n)] mu (fun mu' => NetC n [] mu' ∧ Same [6, 9, 10] mu mu') := by
  refine jCv.of (pad := 0) hl hG (by decide) (Nat.le_of_ble_eq_true rfl) (fun X h => ?_)
  show J l G X _ 2 0 [.ref 6, .int (nI n)] [] mu 0
  refine rX2_empty_0 h ?_
  refine rX2_empty_15 h (c_fill hl hG 0 (a := 9) rfl (by decide)) (by decide) (Nat.zero_le _) (fun mu1 e1 => ?_)
  refine rX2_empty_18 h ?_
  refine rX2_empty_23 h (c_fill hl hG 0 (a := 10) rfl (by decide)) (by decide) (Nat.zero_le _) (fun mu2 e2 => ?_)
  refine J_vret h dX2_empty_26 ?_
  subst e1; subst e2
  refine ⟨⟨rfl, rfl, fun k e he => by simp at he, fun a ha => ⟨?_, ?_, fun p b hb => by simp [nbl] at hb⟩⟩, ?_⟩
  · rw [put_ne _ _ (by decide), put_at]; simp only [fillTo, if_pos ha]; rfl
  · rw [put_at]; simp only [fillTo, if_pos ha]; rfl
  · exact ((Same.wr (by decide)).trans' (Same.wr (by decide))).trans' ((Same.put (by decide)).trans' (Same.put (by decide)))
theorem c_areLinked (hl : l.stackTraces = false) (hG : jGok G) {nb : Nat → List Nat} {a b : Nat} (ha : a < 24) (hb : b < 24) (hP : PortC nb mu) (hn : ∀ c ∈ nb a, c < 32) : jCi l G yX2_areLinked cX2_areLinked 3 1 (some .boolean) [.ref 6, .int (nI a), .int (nI b)] mu (fun v mu' => v = (if b ∈ nb a then 1 else 0) ∧ mu' = mu) := by
  refine jCi.of (pad := 0) hl hG (by decide) (Nat.le_of_ble_eq_true rfl) (fun X h => ?_)
  show J l G X _ 3 0 [.ref 6, .int (nI a), .int (nI b)] [] mu 0
  have e : mu 10 (nI a).toNatClampNeg = msk (nb a) := by rw [nI_clamp (by omega)]; exact (hP a ha).2.1
  refine rX2_areLinked_0 h (vp_in_nI ha (by omega)) (fun q => ?_) (fun q => ?_)
  · rw [e, bt_test _ (by omega), bt_msk hn (by omega)] at q
    exact J_iret h dX2_areLinked_18 rfl ⟨by rw [if_neg (by simpa using q)], rfl⟩
  · rw [e, bt_test1 _ (by omega), bt_msk hn (by omega)] at q
    exact J_iret h dX2_areLinked_18 rfl ⟨by rw [if_pos (by simpa using q)], rfl⟩
theorem c_addPort (hl : l.stackTraces = false) (hG : jGok G) {nb : Nat → List Nat} {a b : Nat} (ha : a < 24) (hb : b < 24) (hP : PortC nb mu) (hn : ∀ x, x < 24 → ∀ c ∈ nb x, c < 24) (hnd : ∀ x, (nb x).Nodup) (hb2 : b ∉ nb a) :
    jCv l G yX2_addPort cX2_addPort 3 1 [.ref 6, .int (nI a), .int (nI b)] mu (fun mu' => PortC (fun x => if x = a then nb a ++ [b] else nb x) mu' ∧ Same [9, 10, 11, 12] mu mu') := by
  have hlen : (nb a ++ [b]).length ≤ 24 := nd_len (List.nodup_append.mpr ⟨hnd a, by simp, fun x hx y hy => by simp at hy; subst hy; exact fun q => hb2 (q ▸ hx)⟩) (fun c hc => by
    rcases List.mem_append.mp hc with q | q
    · exact hn a ha c q
    · simp at q; omega)
  rw [List.length_append] at hlen
  simp only [List.length_cons, List.length_nil] at hlen
  obtain ⟨p, hp⟩ : ∃ p, p = (nb a).length := ⟨_, rfl⟩
  have e9 : mu 9 (nI a).toNatClampNeg = nI p := by rw [nI_clamp (by omega), hp]; exact (hP a ha).1
  have i1 : nI a * 24 + nI p = nI (a * 24 + p) := by rw [show (24 : Int32) = nI 24 from rfl, pk_mul, nI_add]
  have i2 : nI a * 24 + nI b = nI (a * 24 + b) := by rw [show (24 : Int32) = nI 24 from rfl, pk_mul, nI_add]
  have hv : vp_in (nI a) 24 := vp_in_nI ha (by omega)
  refine jCv.of (pad := 0) hl hG (by decide) (Nat.le_of_ble_eq_true rfl) (fun X h => ?_)
  show J l G X _ 3 0 [.ref 6, .int (nI a), .int (nI b)] [] mu 0
  refine rX2_addPort_0 h hv (by rw [e9, i1]; exact vp_in_nI (by omega) (by omega)) hv (by rw [i2]; exact vp_in_nI (by omega) (by omega)) hv hv hv hv ?_
  refine J_vret h dX2_addPort_56 ?_
  rw [e9, i1, i2, nI_clamp (by omega : a * 24 + p < 2 ^ 31), nI_clamp (by omega : a * 24 + b < 2 ^ 31), nI_clamp (by omega : a < 2 ^ 31), nI_1]
  refine ⟨fun x hx => ?_, (((Same.wr (by decide)).trans' (Same.wr (by decide))).trans' (Same.wr (by decide))).trans' (Same.wr (by decide))⟩
  rw [show wr (wr (wr (wr mu 11 (a * 24 + p) (nI b)) 12 (a * 24 + b) (nI p)) 10 a (mu 10 a ||| 1 <<< (nI b &&& 31))) 9 a (nI (p + 1)) 9 = upd (mu 9) a (nI (p + 1)) from rfl, show wr (wr (wr (wr mu 11 (a * 24 + p) (nI b)) 12 (a * 24 + b) (nI p)) 10 a (mu 10 a ||| 1 <<< (nI b &&& 31))) 9 a (nI (p + 1)) 10 = upd (mu 10) a (mu 10 a ||| 1 <<< (nI b &&& 31)) from rfl, show wr (wr (wr (wr mu 11 (a * 24 + p) (nI b)) 12 (a * 24 + b) (nI p)) 10 a (mu 10 a ||| 1 <<< (nI b &&& 31))) 9 a (nI (p + 1)) 11 = upd (mu 11) (a * 24 + p) (nI b) from rfl, show wr (wr (wr (wr mu 11 (a * 24 + p) (nI b)) 12 (a * 24 + b) (nI p)) 10 a (mu 10 a ||| 1 <<< (nI b &&& 31))) 9 a (nI (p + 1)) 12 = upd (mu 12) (a * 24 + b) (nI p) from rfl]
  obtain ⟨g1, g2, g3⟩ := hP x hx
  by_cases q : x = a
  · subst q
    simp only [if_true, upd]
    refine ⟨by rw [List.length_append, ← hp]; rfl, by rw [msk_app, g2], fun p' b' hb' => ?_⟩
    rw [List.getElem?_append] at hb'
    split at hb'
    · rename_i hlt
      have hmem : b' ∈ nb x := List.mem_of_getElem? hb'
      have hbb : b' ≠ b := fun z => hb2 (z ▸ hmem)
      rw [if_neg (by omega), if_neg (by omega)]
      exact g3 p' b' hb'
    · rename_i hge
      have : p' = p := by
        rcases Nat.lt_or_ge p' ((nb x).length + 1) with z | z
        · omega
        · rw [List.getElem?_eq_none (by simp; omega)] at hb'; cases hb'
      subst this
      rw [← hp, Nat.sub_self] at hb'
      simp at hb'
      subst hb'
      simp
  · simp only [if_neg q, upd]
    refine ⟨g1, g2, fun p' b' hb' => ?_⟩
    have hp' : p' < 24 := Nat.lt_of_lt_of_le (List.getElem?_eq_some_iff.mp hb').1 (nd_len (hnd x) (hn x hx))
    have hb24 : b' < 24 := hn x hx b' (List.mem_of_getElem? hb')
    rw [if_neg (by omega), if_neg (by omega)]
    exact g3 p' b' hb'
theorem nb_join {lk : Lk} {a b : Nat} (hab : a ≠ b) : (fun x => if x = b then (fun x => if x = a then nbl lk a ++ [b] else nbl lk x) b ++ [a] else (fun x => if x = a then nbl lk a ++ [b] else nbl lk x) x) = nbl (lk ++ [(a, b)]) := by
  funext x
  rw [nbl_app]
  by_cases h1 : x = b
  · subst h1
    have hba : ¬ x = a := fun q => hab q.symm
    simp [hab, hba]
  · by_cases h2 : x = a
    · subst h2
      simp [h1]
    · rw [if_neg (fun q : a = x => h2 q.symm), if_neg (fun q : b = x => h1 q.symm)]
      simp [h1, h2]
theorem c_join (hl : l.stackTraces = false) (hG : jGok G) {n : Nat} {lk : Lk} {a b : Nat} (hok : NetOk n lk) (hN : NetC n lk mu) (ha : a < n) (hb : b < n) (hab : a ≠ b) (hnew : b ∉ nbl lk a) (hlen : lk.length < 60) :
    jCi l G yX2_join cX2_join 3 2 (some .int) [.ref 6, .int (nI a), .int (nI b)] mu (fun v mu' => v = nI lk.length ∧ NetC n (lk ++ [(a, b)]) mu' ∧ Same [6, 7, 8, 9, 10, 11, 12] mu mu') := by
  have hn24 := hok.1
  have hnew2 : a ∉ nbl lk b := fun q => hnew (nbl_symm q (fun e he => (hok.2.2.1 e he).2.2))
  have h61 : mu 6 1 = nI lk.length := hN.2.1
  have hv : vp_in (mu 6 1) 60 := by rw [h61]; exact vp_in_nI hlen (by omega)
  refine jCi.of (pad := 0) hl hG (by decide) (Nat.le_of_ble_eq_true rfl) (fun X h => ?_)
  show J l G X _ 3 0 [.ref 6, .int (nI a), .int (nI b)] [] mu 0
  refine rX2_join_0 h hv hv ?_
  rw [h61, nI_clamp (by omega)]
  have hP1 : PortC (nbl lk) (wr (wr mu 7 lk.length (nI a)) 8 lk.length (nI b)) := hN.2.2.2.congr rfl rfl rfl rfl
  have hlt : ∀ x, x < 24 → ∀ c ∈ nbl lk x, c < 24 := fun x _ c hc => by have := (hok.nb hc).2.1; omega
  refine rX2_join_23 h (c_addPort hl hG (by omega) (by omega) hP1 hlt hok.2.2.2 hnew) (by decide) (Nat.zero_le _) (fun mu2 e2 => ?_)
  refine rX2_join_26 h ?_
  have hlt2 : ∀ x, x < 24 → ∀ c ∈ (fun x => if x = a then nbl lk a ++ [b] else nbl lk x) x, c < 24 := fun x hx c hc => by
    by_cases q : x = a
    · simp only [if_pos q] at hc
      rcases List.mem_append.mp hc with z | z
      · exact hlt a (by omega) c z
      · simp at z; omega
    · simp only [if_neg q] at hc
      exact hlt x hx c hc
  have hnd2 : ∀ x, ((fun x => if x = a then nbl lk a ++ [b] else nbl lk x) x).Nodup := fun x => by
    by_cases q : x = a
    · simp only [if_pos q]
      exact List.nodup_append.mpr ⟨hok.2.2.2 a, by simp, fun y hy z hz => by simp at hz; subst hz; exact fun w => hnew (w ▸ hy)⟩
    · simp only [if_neg q]; exact hok.2.2.2 x
  refine rX2_join_29 h (c_addPort hl hG (by omega) (by omega) e2.1 hlt2 hnd2 (by simp only [if_neg (fun q : b = a => hab q.symm)]; exact hnew2)) (by decide) (Nat.zero_le _) (fun mu3 e3 => ?_)
  have s13 : Same [9, 10, 11, 12] (wr (wr mu 7 lk.length (nI a)) 8 lk.length (nI b)) mu3 := e2.2.trans' e3.2
  have h63 : mu3 6 1 = nI lk.length := by rw [s13 6 (by decide)]; exact h61
  refine rX2_join_32 h ?_
  rw [h63]
  refine J_iret h dX2_join_48 rfl ⟨by rw [nI_1, nI_pred], ?_, ?_⟩
  · have hP3 := e3.1
    rw [nb_join hab] at hP3
    refine ⟨?_, ?_, fun k e he => ?_, hP3.congr rfl rfl rfl rfl⟩
    · show mu3 6 0 = _
      rw [s13 6 (by decide)]; exact hN.1
    · show nI lk.length + 1 = _
      rw [nI_1, List.length_append]; rfl
    · show mu3 7 k = _ ∧ mu3 8 k = _
      rw [s13 7 (by decide), s13 8 (by decide)]
      show upd (mu 7) lk.length (nI a) k = _ ∧ upd (mu 8) lk.length (nI b) k = _
      rw [List.getElem?_append] at he
      split at he
      · rename_i hlt
        simp only [upd, if_neg (show ¬ k = lk.length by omega)]
        exact hN.2.2.1 k e he
      · have hk : k = lk.length := by
          rcases Nat.lt_or_ge k (lk.length + 1) with z | z
          · omega
          · rw [List.getElem?_eq_none (by simp; omega)] at he; cases he
        subst hk
        simp at he
        subst he
        simp [upd]
  · refine Same.trans' ?_ (Same.wr (by decide))
    refine Same.trans' ((Same.wr (by decide)).trans' (Same.wr (by decide))) (s13.wide (by decide))
theorem NetOk.add {n : Nat} {lk : Lk} {a b : Nat} (hok : NetOk n lk) (ha : a < n) (hb : b < n) (hab : a ≠ b) (hnew : b ∉ nbl lk a) (hlen : lk.length < 60) : NetOk n (lk ++ [(a, b)]) := by
  refine ⟨hok.1, by rw [List.length_append]; simp; omega, fun e he => ?_, fun x => ?_⟩
  · rcases List.mem_append.mp he with q | q
    · exact hok.2.2.1 e q
    · simp at q; subst q; exact ⟨ha, hb, hab⟩
  · have hnew2 : a ∉ nbl lk b := fun q => hnew (nbl_symm q (fun e he => (hok.2.2.1 e he).2.2))
    rw [nbl_app]
    by_cases h1 : a = x
    · subst h1
      rw [if_pos rfl]
      exact List.nodup_append.mpr ⟨hok.2.2.2 a, by simp, fun y hy z hz => by simp at hz; subst hz; exact fun w => hnew (w ▸ hy)⟩
    · rw [if_neg h1]
      by_cases h2 : b = x
      · subst h2
        rw [if_pos rfl]
        exact List.nodup_append.mpr ⟨hok.2.2.2 b, by simp, fun y hy z hz => by simp at hz; subst hz; exact fun w => hnew2 (w ▸ hy)⟩
      · rw [if_neg h2]; simp; exact hok.2.2.2 x
end C31
