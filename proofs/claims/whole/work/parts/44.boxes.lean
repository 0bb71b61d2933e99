/-! ===== ports, directions, boxes ===== -/
theorem nbl_eq {n : Nat} {lk : Lk} (hok : NetOk n lk) (a : Nat) : nbl lk a = (pll lk a).map (fun k => match lk[k]? with | some e => if e.1 = a then e.2 else e.1 | none => 0) := nbl_pll lk (fun e he => (hok.2.2.1 e he).2.2) a
/-- a port's link -/
theorem port_link {n : Nat} {lk : Lk} (hok : NetOk n lk) {a p l : Nat} (h : (pll lk a)[p]? = some l) : ∃ e : Nat × Nat, lk[l]? = some e ∧ l < lk.length ∧ (e.1 = a ∨ e.2 = a) ∧ (nbl lk a)[p]? = some (if e.1 = a then e.2 else e.1) := by
  have hm : l ∈ pll lk a := List.mem_of_getElem? h
  unfold pll at hm
  rw [List.mem_filter, List.mem_range] at hm
  obtain ⟨hl, hx⟩ := hm
  obtain ⟨e, he⟩ : ∃ e, lk[l]? = some e := ⟨lk[l], List.getElem?_eq_getElem hl⟩
  refine ⟨e, he, hl, ?_, ?_⟩
  · rw [he] at hx; simpa using hx
  · rw [nbl_eq hok, List.getElem?_map, h, Option.map_some, he]
theorem port_nb {n : Nat} {lk : Lk} (hok : NetOk n lk) {a p b : Nat} (h : (nbl lk a)[p]? = some b) : ∃ (l : Nat) (e : Nat × Nat), (pll lk a)[p]? = some l ∧ lk[l]? = some e ∧ mt e a b = true ∧ a < n ∧ b < n ∧ a ≠ b := by
  have hab := hok.nb (List.mem_of_getElem? h)
  have h2 := h
  rw [nbl_eq hok, List.getElem?_map] at h2
  cases hl : (pll lk a)[p]? with
  | none => rw [hl] at h2; cases h2
  | some l =>
    obtain ⟨e, he, hll, hend, hn⟩ := port_link hok hl
    rw [h] at hn
    have hn := Option.some.inj hn
    refine ⟨l, e, rfl, he, ?_, hab.1, hab.2.1, hab.2.2⟩
    unfold mt
    have hne := (hok.2.2.1 e (List.mem_of_getElem? he)).2.2
    rcases hend with z | z
    · rw [if_pos z] at hn; simp [z, hn]
    · rw [if_neg (fun w => hne (w.trans z.symm))] at hn; simp [z, hn]
def pt (lk : Lk) (b a : Nat) : Nat := (nbl lk b).idxOf a
theorem pt_at {lk : Lk} {b a : Nat} (h : a ∈ nbl lk b) : (nbl lk b)[pt lk b a]? = some a := by
  unfold pt
  have := List.idxOf_lt_length_iff.mpr h
  rw [List.getElem?_eq_getElem this, List.getElem_idxOf]
theorem pt_of {n : Nat} {lk : Lk} (hok : NetOk n lk) {b a p : Nat} (h : (nbl lk b)[p]? = some a) : pt lk b a = p := by
  have h2 := pt_at (List.mem_of_getElem? h)
  have hp := (List.getElem?_eq_some_iff.mp h).1
  have hp2 := (List.getElem?_eq_some_iff.mp h2).1
  have := (List.getElem?_inj hp2 (hok.2.2.2 b)).mp (h2.trans h.symm)
  exact this
theorem nb_back {n : Nat} {lk : Lk} (hok : NetOk n lk) {a p b : Nat} (h : (nbl lk a)[p]? = some b) : (nbl lk b)[pt lk b a]? = some a := pt_at (nbl_symm (List.mem_of_getElem? h) (fun e he => (hok.2.2.1 e he).2.2))
theorem mt_comm (e : Nat × Nat) (a b : Nat) : mt e a b = mt e b a := by
  unfold mt
  exact Bool.or_comm _ _
/-- over one link both ways -/
theorem link_back {n : Nat} {lk : Lk} (hok : NetOk n lk) {a p b l : Nat} (h : (nbl lk a)[p]? = some b) (hl : (pll lk a)[p]? = some l) : (pll lk b)[pt lk b a]? = some l := by
  obtain ⟨l1, e1, h1, h2, h3, -⟩ := port_nb hok h
  rw [hl] at h1
  have := Option.some.inj h1
  subst this
  obtain ⟨l2, e2, g1, g2, g3, -⟩ := port_nb hok (nb_back hok h)
  rw [mt_comm] at g3
  rw [g1, mt_one hok h2 g2 h3 g3]
/-- the direction by which letters come to a node over a link -/
def dr (lk : Lk) (l b : Nat) : Nat := 2 * l + (match lk[l]? with | some e => if e.2 = b then 0 else 1 | none => 0)
theorem dr_lt {n : Nat} {lk : Lk} (hok : NetOk n lk) {l : Nat} (b : Nat) (h : l < lk.length) : dr lk l b < 120 := by
  have := hok.2.1
  unfold dr
  split
  · split <;> omega
  · omega
theorem dr_inj {n : Nat} {lk : Lk} (hok : NetOk n lk) {b p l b' p' l' : Nat} (h : (pll lk b)[p]? = some l) (h' : (pll lk b')[p']? = some l') (e : dr lk l b = dr lk l' b') : b = b' ∧ p = p' ∧ l = l' := by
  obtain ⟨x, hx, hl, hend, hn⟩ := port_link hok h
  obtain ⟨y, hy, hl', hend', hn'⟩ := port_link hok h'
  have hll : l = l' := by
    unfold dr at e
    split at e <;> split at e <;> (try split at e) <;> (try split at e) <;> omega
  subst hll
  rw [hx] at hy
  have := Option.some.inj hy
  subst this
  have hb : b = b' := by
    unfold dr at e
    simp only [hx] at e
    have hne := (hok.2.2.1 x (List.mem_of_getElem? hx)).2.2
    by_cases z : x.2 = b
    · by_cases w : x.2 = b'
      · omega
      · rw [if_pos z, if_neg w] at e; omega
    · by_cases w : x.2 = b'
      · rw [if_neg z, if_pos w] at e; omega
      · rcases hend with u | u
        · rcases hend' with v | v
          · omega
          · exact absurd v w
        · exact absurd u z
  subst hb
  refine ⟨rfl, ?_, rfl⟩
  have hp := (List.getElem?_eq_some_iff.mp h).1
  have hnd : (pll lk b).Nodup := by unfold pll; exact List.Pairwise.filter _ List.nodup_range
  exact (List.getElem?_inj hp hnd).mp (h.trans h'.symm)
/-! letters that came, by even and odd rounds, nodes and ports -/
abbrev Bx : Type := Nat → Nat → Nat → Option Int32
def bxSet (bx : Bx) (q b p : Nat) (o : Option Int32) : Bx := fun q' b' p' => if q' = q ∧ b' = b ∧ p' = p then o else bx q' b' p'
def bxClr (bx : Bx) (q b : Nat) : Bx := fun q' b' p' => if q' = q ∧ b' = b then none else bx q' b' p'
/-- what a node has sent is there -/
def dlvT (lk : Lk) (a q : Nat) (sd : Nat → Option Int32) (m : Nat) (bx : Bx) : Bx := fun q' b' p' => if q' = q ∧ (nbl lk b')[p']? = some a ∧ pt lk a b' < m then (match sd (pt lk a b') with | some v => some v | none => bx q' b' p') else bx q' b' p'
theorem dlvT_0 (lk : Lk) (a q : Nat) (sd : Nat → Option Int32) (bx : Bx) : dlvT lk a q sd 0 bx = bx := by
  funext q' b' p'
  unfold dlvT
  rw [if_neg (by omega)]
theorem dlvT_succ {n : Nat} {lk : Lk} (hok : NetOk n lk) {a m b : Nat} (q : Nat) (sd : Nat → Option Int32) (bx : Bx) (h : (nbl lk a)[m]? = some b) : dlvT lk a q sd (m + 1) bx = (match sd m with | some v => bxSet (dlvT lk a q sd m bx) q b (pt lk b a) (some v) | none => dlvT lk a q sd m bx) := by
  have hb := nb_back hok h
  have hm := pt_of hok h
  have key : ∀ b' p', (nbl lk b')[p']? = some a → pt lk a b' = m → b' = b ∧ p' = pt lk b a := fun b' p' h1 h2 => by
    have h3 := nb_back hok h1
    rw [h2, h] at h3
    have := Option.some.inj h3
    subst this
    exact ⟨rfl, (pt_of hok h1).symm⟩
  funext q' b' p'
  unfold dlvT
  by_cases c : q' = q ∧ (nbl lk b')[p']? = some a ∧ pt lk a b' = m
  · obtain ⟨c1, c2, c3⟩ := c
    obtain ⟨k1, k2⟩ := key b' p' c2 c3
    rw [if_pos ⟨c1, c2, by omega⟩, c3]
    cases sd m with
    | none => simp only; rw [if_neg (by omega)]
    | some v => simp only [bxSet]; rw [if_pos ⟨c1, k1, k2⟩]
  · have e1 : (q' = q ∧ (nbl lk b')[p']? = some a ∧ pt lk a b' < m + 1) ↔ (q' = q ∧ (nbl lk b')[p']? = some a ∧ pt lk a b' < m) :=
      ⟨fun z => ⟨z.1, z.2.1, by have := z.2.2; have : pt lk a b' ≠ m := fun w => c ⟨z.1, z.2.1, w⟩; omega⟩, fun z => ⟨z.1, z.2.1, by omega⟩⟩
    have e2 : ¬ (q' = q ∧ b' = b ∧ p' = pt lk b a) := fun z => c ⟨z.1, by rw [z.2.1, z.2.2]; exact hb, by rw [z.2.1]; exact hm⟩
    simp only [e1]
    cases sd m with
    | none => rfl
    | some v => simp only [bxSet, if_neg e2]
/-- the class's boxes -/
def BoxC (C V : Nat) (bx : Bx) (mu : jM) : Prop := ∀ q b p, q < 2 → b < 24 → p < 24 → bt (mu C (q * 24 + b)) p = (bx q b p).isSome ∧ ∀ v, bx q b p = some v → mu V ((q * 24 + b) * 24 + p) = v
theorem BoxC.congr {C V : Nat} {bx : Bx} {mu mu' : jM} (h : BoxC C V bx mu) (h1 : mu' C = mu C) (h2 : mu' V = mu V) : BoxC C V bx mu' := fun q b p a1 a2 a3 => by rw [h1, h2]; exact h q b p a1 a2 a3
theorem BoxC.clr {C V : Nat} {bx : Bx} {mu mu' : jM} (h : BoxC C V bx mu) {q b : Nat} (h1 : mu' C = upd (mu C) (q * 24 + b) 0) (h2 : mu' V = mu V) (hb : b < 24) : BoxC C V (bxClr bx q b) mu' := fun q' b' p a1 a2 a3 => by
  rw [h1, h2]
  unfold bxClr upd
  by_cases z : q' = q ∧ b' = b
  · rw [if_pos z, if_pos (by rw [z.1, z.2]), b_0]
    exact ⟨rfl, fun v hv => by cases hv⟩
  · rw [if_neg z, if_neg (by omega)]
    exact h q' b' p a1 a2 a3
theorem BoxC.set {C V : Nat} {bx : Bx} {mu mu' : jM} (h : BoxC C V bx mu) {q b p : Nat} (v : Int32) (h1 : mu' C = upd (mu C) (q * 24 + b) (mu C (q * 24 + b) ||| (1 <<< (nI p &&& 31)))) (h2 : mu' V = upd (mu V) ((q * 24 + b) * 24 + p) v) (hb : b < 24) (hp : p < 24) : BoxC C V (bxSet bx q b p (some v)) mu' := fun q' b' p' a1 a2 a3 => by
  obtain ⟨g1, g2⟩ := h q' b' p' a1 a2 a3
  rw [h1, h2]
  unfold bxSet upd
  by_cases z : q' * 24 + b' = q * 24 + b
  · have zq : q' = q := by omega
    have zb : b' = b := by omega
    subst zq
    subst zb
    rw [if_pos rfl, bt_set _ (by omega) (by omega), g1]
    by_cases y : p' = p
    · subst y
      rw [if_pos ⟨rfl, rfl, rfl⟩, if_pos rfl]
      exact ⟨by simp, fun w hw => Option.some.inj hw⟩
    · rw [if_neg (fun w => y w.2.2), if_neg (by omega)]
      exact ⟨by simp [y], g2⟩
  · rw [if_neg z, if_neg (fun w => z (by rw [w.1, w.2.1])), if_neg (by omega)]
    exact ⟨g1, g2⟩
/-- the reference's boxes of one half, at nodes that count -/
def BoxR (T V : Nat) (lk : Lk) (q : Nat) (P : Nat → Prop) (bx : Bx) (mu : jM) : Prop := ∀ b p l, P b → (pll lk b)[p]? = some l → mu T (120 * q + dr lk l b) = (if (bx q b p).isSome then 1 else 0) ∧ ∀ v, bx q b p = some v → mu V (120 * q + dr lk l b) = v
theorem BoxR.congr {T V q : Nat} {lk : Lk} {P : Nat → Prop} {bx : Bx} {mu mu' : jM} (h : BoxR T V lk q P bx mu) (h1 : mu' T = mu T) (h2 : mu' V = mu V) : BoxR T V lk q P bx mu' := fun b p l a1 a2 => by rw [h1, h2]; exact h b p l a1 a2
theorem BoxR.setO {n T V q : Nat} {lk : Lk} (hok : NetOk n lk) {P : Nat → Prop} {bx : Bx} {mu mu' : jM} (h : BoxR T V lk q P bx mu) {q0 b p l : Nat} (v : Int32) (hl : (pll lk b)[p]? = some l) (h1 : mu' T = upd (mu T) (120 * q0 + dr lk l b) 1) (h2 : mu' V = upd (mu V) (120 * q0 + dr lk l b) v) : BoxR T V lk q P (bxSet bx q0 b p (some v)) mu' := fun b' p' l' a1 a2 => by
  obtain ⟨g1, g2⟩ := h b' p' l' a1 a2
  obtain ⟨e, he, hll, -⟩ := port_link hok hl
  obtain ⟨e', he', hll', -⟩ := port_link hok a2
  have d1 := dr_lt hok b hll
  have d2 := dr_lt hok b' hll'
  rw [h1, h2]
  unfold bxSet upd
  by_cases z : 120 * q + dr lk l' b' = 120 * q0 + dr lk l b
  · have zq : q = q0 := by omega
    obtain ⟨w1, w2, w3⟩ := dr_inj hok a2 hl (by omega)
    simp only [if_pos z, if_pos (show q = q0 ∧ b' = b ∧ p' = p from ⟨zq, w1, w2⟩)]
    exact ⟨rfl, fun w hw => Option.some.inj hw⟩
  · have ne : ¬ (q = q0 ∧ b' = b ∧ p' = p) := fun w => z (by
      obtain ⟨w1, w2, w3⟩ := w
      subst w1; subst w2; subst w3
      rw [hl] at a2
      rw [Option.some.inj a2])
    simp only [if_neg z, if_neg ne]
    exact ⟨g1, g2⟩
section C44
variable {l : Launch} {G : jG} {mu : jM}
theorem k_towards (hl : l.stackTraces = false) (hG : jGok G) {n : Nat} {lk : Lk} (hok : NetOk n lk) (hL : LnkR lk mu) {k b : Nat} {e : Nat × Nat} (hk : lk[k]? = some e) (hb : b < 24) : jCi l G yX8_towards cX8_towards 3 1 (some .int) [.ref 58, .int (nI k), .int (nI b)] mu (fun v mu' => v = nI (dr lk k b) ∧ mu' = mu) := by
  refine jCi.of (pad := 0) hl hG (by decide) (Nat.le_of_ble_eq_true rfl) (fun X h => ?_)
  show J l G X _ 3 0 [.ref 58, .int (nI k), .int (nI b)] [] mu 0
  have hkl := (List.getElem?_eq_some_iff.mp hk).1
  have h60 := hok.2.1
  have hn := hok.1
  have he := hok.2.2.1 e (List.mem_of_getElem? hk)
  have hc : (nI k).toNatClampNeg = k := nI_clamp (by omega)
  have e2 : (nI e.2 = nI b) ↔ e.2 = b := nI_eq (by omega) (by omega)
  have c2 : (2 : Int32) * nI k = nI (2 * k) := by rw [nL2, nI_mul]
  refine rX8_towards_0 h (vp_in_nI (by omega) (by omega)) (fun q => ?_) (fun q => ?_)
  · rw [hc, (hL k e hk).2, e2] at q
    exact J_iret h dX8_towards_19 rfl ⟨by unfold dr; simp only [hk]; rw [if_neg q, c2, nI_1], rfl⟩
  · rw [hc, (hL k e hk).2, e2] at q
    exact J_iret h dX8_towards_19 rfl ⟨by unfold dr; simp only [hk]; rw [if_pos q, c2, Int32.add_zero]; rfl, rfl⟩
theorem k_otherEnd (hl : l.stackTraces = false) (hG : jGok G) {n : Nat} {lk : Lk} (hok : NetOk n lk) (hL : LnkR lk mu) {k a : Nat} {e : Nat × Nat} (hk : lk[k]? = some e) (ha : a < 24) : jCi l G yX8_otherEnd cX8_otherEnd 3 1 (some .int) [.ref 58, .int (nI k), .int (nI a)] mu (fun v mu' => v = nI (if e.1 = a then e.2 else e.1) ∧ mu' = mu) := by
  refine jCi.of (pad := 0) hl hG (by decide) (Nat.le_of_ble_eq_true rfl) (fun X h => ?_)
  show J l G X _ 3 0 [.ref 58, .int (nI k), .int (nI a)] [] mu 0
  have hkl := (List.getElem?_eq_some_iff.mp hk).1
  have h60 := hok.2.1
  have hn := hok.1
  have he := hok.2.2.1 e (List.mem_of_getElem? hk)
  have hc : (nI k).toNatClampNeg = k := nI_clamp (by omega)
  have e2 : (nI e.1 = nI a) ↔ e.1 = a := nI_eq (by omega) (by omega)
  have s : vp_in (nI k) 60 := vp_in_nI (by omega) (by omega)
  refine rX8_otherEnd_0 h s (fun _ => s) (fun _ => s) (fun q => ?_) (fun q => ?_)
  · rw [hc, (hL k e hk).1, e2] at q
    rw [hc, (hL k e hk).1]
    exact J_iret h dX8_otherEnd_25 rfl ⟨by rw [if_neg q], rfl⟩
  · rw [hc, (hL k e hk).1, e2] at q
    rw [hc, (hL k e hk).2]
    exact J_iret h dX8_otherEnd_25 rfl ⟨by rw [if_pos q], rfl⟩
theorem c_acceptP (hl : l.stackTraces = false) (hG : jGok G) {lk : Lk} {bx : Bx} (hB : BoxC 16 17 bx mu) {a b p : Nat} (k : Nat) (hk : k < 2 ^ 31) (ha : a < 24) (hb : b < 24) (hp : p < 24) (hpt : mu 12 (b * 24 + a) = nI p) (v : Int32) : jCv l G yX1_accept cX1_accept 7 2 [.ref 14, .int (nI b), .int (nI a), .int (nI k), .int v] mu (fun mu' => BoxC 16 17 (bxSet bx (k % 2) b p (some v)) mu' ∧ Same [16, 17] mu mu') := by
  refine jCv.of (pad := 2) hl hG (by decide) (Nat.le_of_ble_eq_true rfl) (fun X h => ?_)
  show J l G X _ 7 0 [.ref 14, .int (nI b), .int (nI a), .int (nI k), .int v, .float 0, .float 0] [] mu 0
  have c1 : nI b * 24 + nI a = nI (b * 24 + a) := by rw [nL24, nI_mul, nI_add]
  have k1 : (nI (b * 24 + a)).toNatClampNeg = b * 24 + a := nI_clamp (by omega)
  refine rX1_acceptP_0 h (by rw [c1]; exact vp_in_nI (by omega) (by omega)) ?_
  rw [c1, k1, hpt]
  refine rX1_acceptP_18 h (c_boxOf hl hG b hk) (by decide) (Nat.zero_le _) (fun v' m1 e1 => ?_)
  obtain ⟨rfl, rfl⟩ := e1
  have hbx := bxN_lt (k := k) hb
  have c2 : nI (bxN b k) * 24 + nI p = nI (bxN b k * 24 + p) := by rw [nL24, nI_mul, nI_add]
  have k2 : (nI (bxN b k * 24 + p)).toNatClampNeg = bxN b k * 24 + p := nI_clamp (by omega)
  have k3 : (nI (bxN b k)).toNatClampNeg = bxN b k := nI_clamp (by omega)
  refine rX1_acceptP_21 h (vp_in_nI hbx (by omega)) (vp_in_nI hbx (by omega)) (by rw [c2]; exact vp_in_nI (by omega) (by omega)) ?_
  rw [c2, k2, k3]
  refine J_vret h dX1_accept_52 ⟨?_, (Same.wr (by decide)).trans' (Same.wr (by decide))⟩
  exact hB.set v (by rw [rd_ne _ _ _ (by decide), rd_at]; rfl) (by rw [rd_at, rd_ne _ _ _ (by decide)]; rfl) hb hp
theorem c_goesByP (hl : l.stackTraces = false) (hG : jGok G) {sd : Nat → Option Int32} (hs : ∀ i, i < 32 → bt (mu 14 6) i = (sd i).isSome) {p : Nat} (hp : p < 32) : jCi l G yX1_goesBy cX1_goesBy 2 1 (some .boolean) [.ref 14, .int (nI p)] mu (fun v mu' => tf v ((sd p).isSome = true) ∧ mu' = mu) := by
  refine jCi.of (pad := 0) hl hG (by decide) (Nat.le_of_ble_eq_true rfl) (fun X h => ?_)
  show J l G X _ 2 0 [.ref 14, .int (nI p)] [] mu 0
  refine rX1_goesByP_0 h (fun q => ?_) (fun q => ?_)
  · rw [bt_test _ hp, hs p hp] at q
    exact J_iret h dX1_goesBy_16 rfl ⟨tf.zero (by rw [q]; decide), rfl⟩
  · rw [bt_test1 _ hp, hs p hp] at q
    exact J_iret h dX1_goesBy_16 rfl ⟨tf.one q, rfl⟩
theorem c_acceptR (hl : l.stackTraces = false) (hG : jGok G) {lk : Lk} {bx : Bx} (hB : BoxC 22 23 bx mu) {a b p : Nat} (k : Nat) (hk : k < 2 ^ 31) (ha : a < 24) (hb : b < 24) (hp : p < 24) (hpt : mu 12 (b * 24 + a) = nI p) (v : Int32) : jCv l G yX1_accept cX1_accept 7 2 [.ref 20, .int (nI b), .int (nI a), .int (nI k), .int v] mu (fun mu' => BoxC 22 23 (bxSet bx (k % 2) b p (some v)) mu' ∧ Same [22, 23] mu mu') := by
  refine jCv.of (pad := 2) hl hG (by decide) (Nat.le_of_ble_eq_true rfl) (fun X h => ?_)
  show J l G X _ 7 0 [.ref 20, .int (nI b), .int (nI a), .int (nI k), .int v, .float 0, .float 0] [] mu 0
  have c1 : nI b * 24 + nI a = nI (b * 24 + a) := by rw [nL24, nI_mul, nI_add]
  have k1 : (nI (b * 24 + a)).toNatClampNeg = b * 24 + a := nI_clamp (by omega)
  refine rX1_acceptR_0 h (by rw [c1]; exact vp_in_nI (by omega) (by omega)) ?_
  rw [c1, k1, hpt]
  refine rX1_acceptR_18 h (c_boxOf hl hG b hk) (by decide) (Nat.zero_le _) (fun v' m1 e1 => ?_)
  obtain ⟨rfl, rfl⟩ := e1
  have hbx := bxN_lt (k := k) hb
  have c2 : nI (bxN b k) * 24 + nI p = nI (bxN b k * 24 + p) := by rw [nL24, nI_mul, nI_add]
  have k2 : (nI (bxN b k * 24 + p)).toNatClampNeg = bxN b k * 24 + p := nI_clamp (by omega)
  have k3 : (nI (bxN b k)).toNatClampNeg = bxN b k := nI_clamp (by omega)
  refine rX1_acceptR_21 h (vp_in_nI hbx (by omega)) (vp_in_nI hbx (by omega)) (by rw [c2]; exact vp_in_nI (by omega) (by omega)) ?_
  rw [c2, k2, k3]
  refine J_vret h dX1_accept_52 ⟨?_, (Same.wr (by decide)).trans' (Same.wr (by decide))⟩
  exact hB.set v (by rw [rd_ne _ _ _ (by decide), rd_at]; rfl) (by rw [rd_at, rd_ne _ _ _ (by decide)]; rfl) hb hp
theorem c_goesByR (hl : l.stackTraces = false) (hG : jGok G) {sd : Nat → Option Int32} (hs : ∀ i, i < 32 → bt (mu 20 6) i = (sd i).isSome) {p : Nat} (hp : p < 32) : jCi l G yX1_goesBy cX1_goesBy 2 1 (some .boolean) [.ref 20, .int (nI p)] mu (fun v mu' => tf v ((sd p).isSome = true) ∧ mu' = mu) := by
  refine jCi.of (pad := 0) hl hG (by decide) (Nat.le_of_ble_eq_true rfl) (fun X h => ?_)
  show J l G X _ 2 0 [.ref 20, .int (nI p)] [] mu 0
  refine rX1_goesByR_0 h (fun q => ?_) (fun q => ?_)
  · rw [bt_test _ hp, hs p hp] at q
    exact J_iret h dX1_goesBy_16 rfl ⟨tf.zero (by rw [q]; decide), rfl⟩
  · rw [bt_test1 _ hp, hs p hp] at q
    exact J_iret h dX1_goesBy_16 rfl ⟨tf.one q, rfl⟩
end C44
