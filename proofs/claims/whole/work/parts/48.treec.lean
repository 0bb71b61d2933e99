/-! ===== the class's trees ===== -/
def parI (o : Option Nat) : Int32 := match o with
  | none => -1
  | some y => nI y
/-- a set as an int -/
def Mk (S : NS) (m : Int32) : Prop := ∀ i, i < 32 → bt m i = S i
theorem cnt32 {n : Nat} (hn : n ≤ 32) {S : NS} {m : Int32} (h : Mk S m) (hs : ∀ x, S x = true → x < n) : bc m = nI (cnt n S) := by
  rw [bc_ct]
  congr 1
  obtain ⟨k, hk⟩ : ∃ k, 32 = n + k := ⟨32 - n, by omega⟩
  rw [hk, fb_ct_split]
  have h1 : fb_ct (bt m) n = cnt n S := fb_ct_cong (fun i hi => h i (by omega))
  have h2 : fb_ct (fun i => bt m (n + i)) k = 0 := fb_ct_zero.mpr (fun i hi => by
    rw [h (n + i) (by omega)]
    rcases Bool.eq_false_or_eq_true (S (n + i)) with z | z
    · have := hs _ z; omega
    · exact z)
  rw [h1, h2, Nat.add_zero]
theorem nbl_bit {n : Nat} {lk : Lk} (hok : NetOk n lk) {mu : jM} (hN : PortC (nbl lk) mu) {a i : Nat} (ha : a < 24) (hi : i < 32) : bt (mu 10 a) i = decide (i ∈ nbl lk a) := by
  rw [(hN a ha).2.1, bt_msk (fun b hb => by have := (hok.nb hb).2.1; have := hok.1; omega) hi]
/-- nodes that are reached from node 0 -/
def rch (lk : Lk) (n : Nat) : Nat → NS
  | 0 => fun x => x == 0
  | i + 1 => fun x => rch lk n i x || nxs lk n (rch lk n i) x
theorem rch_sup {n : Nat} {lk : Lk} (hok : NetOk n lk) (h0 : 0 < n) : ∀ (i x : Nat), rch lk n i x = true → x < n
  | 0, x, h => by simp only [rch, beq_iff_eq] at h; omega
  | i + 1, x, h => by
    simp only [rch, Bool.or_eq_true] at h
    rcases h with z | z
    · exact rch_sup hok h0 i x z
    · obtain ⟨-, y, -, -, q⟩ := nxs_iff.mp z
      exact (hok.nb q).2.1
theorem rch_stay {n : Nat} {lk : Lk} {i : Nat} (h : ∀ x, nxs lk n (rch lk n i) x = false) : ∀ m, rch lk n (i + m) = rch lk n i
  | 0 => rfl
  | m + 1 => by
    have ih := rch_stay h m
    funext x
    show (rch lk n (i + m) x || nxs lk n (rch lk n (i + m)) x) = _
    rw [ih, h x, Bool.or_false]
theorem rch_up {n : Nat} {lk : Lk} {x : Nat} : ∀ {i : Nat} (m : Nat), rch lk n i x = true → rch lk n (i + m) x = true
  | i, 0, h => h
  | i, m + 1, h => by
    show (rch lk n (i + m) x || _) = true
    rw [rch_up m h, Bool.true_or]
theorem rch_dich {n : Nat} {lk : Lk} (hok : NetOk n lk) (h0 : 0 < n) : ∀ m, (∃ i, i ≤ m ∧ ∀ x, nxs lk n (rch lk n i) x = false) ∨ m + 1 ≤ cnt n (rch lk n m)
  | 0 => Or.inr (by
    have : 0 < cnt n (rch lk n 0) := fb_ct_pos.mpr ⟨0, h0, rfl⟩
    omega)
  | m + 1 => by
    rcases rch_dich hok h0 m with ⟨i, hi, h⟩ | h
    · exact Or.inl ⟨i, by omega, h⟩
    · by_cases q : ∀ x, nxs lk n (rch lk n m) x = false
      · exact Or.inl ⟨m, by omega, q⟩
      · refine Or.inr ?_
        have hx : ∃ x, nxs lk n (rch lk n m) x = true := Classical.byContradiction fun z => q (fun x => by
          rcases Bool.eq_false_or_eq_true (nxs lk n (rch lk n m) x) with w | w
          · exact absurd ⟨x, w⟩ z
          · exact w)
        obtain ⟨x, hx⟩ := hx
        have e : cnt n (rch lk n (m + 1)) = cnt n (rch lk n m) + cnt n (nxs lk n (rch lk n m)) := fb_ct_or (fun k _ z => by have := (nxs_iff.mp z.2).1; rw [z.1] at this; cases this)
        have hp : 0 < cnt n (nxs lk n (rch lk n m)) := fb_ct_pos.mpr ⟨x, by
          obtain ⟨-, y, -, -, q⟩ := nxs_iff.mp hx
          exact (hok.nb q).2.1, hx⟩
        omega
/-- n - 1 steps reach all that can be reached -/
theorem rch_all {n : Nat} {lk : Lk} (hok : NetOk n lk) (h0 : 0 < n) {m x : Nat} (h : rch lk n m x = true) : rch lk n (n - 1) x = true := by
  rcases rch_dich hok h0 (n - 1) with ⟨i, hi, hs⟩ | hc
  · have h1 : rch lk n (i + m) x = true := by rw [Nat.add_comm]; exact rch_up i h
    rw [rch_stay hs] at h1
    obtain ⟨k, hk⟩ : ∃ k, n - 1 = i + k := ⟨n - 1 - i, by omega⟩
    rw [hk]
    exact rch_up k h1
  · have hall : cnt n (rch lk n (n - 1)) = n := by have := cnt_le n (rch lk n (n - 1)); omega
    exact fb_ct_all.mp hall x (rch_sup hok h0 m x h)
def conn (lk : Lk) (n : Nat) : Prop := 0 < n ∧ ∀ x, x < n → rch lk n (n - 1) x = true
def allN (n : Nat) : NS := fun x => decide (x < n)
theorem lyr_all {n : Nat} {lk : Lk} (hok : NetOk n lk) (B : NS) : lyr lk n (allN n) B = nxs lk n B := by
  funext x
  unfold lyr allN
  rcases Bool.eq_false_or_eq_true (nxs lk n B x) with z | z
  · obtain ⟨-, y, -, -, q⟩ := nxs_iff.mp z
    simp [z, (hok.nb q).2.1]
  · simp [z]
/-- the tree of all has the nodes that are reached -/
theorem growA_rch {n : Nat} {lk : Lk} (hok : NetOk n lk) : ∀ (f d : Nat) (s : TS), s.1 = rch lk n d → ∃ e, d ≤ e ∧ (growA lk n (allN n) 0 f d s).1 = rch lk n e
  | 0, d, s, h => ⟨d, Nat.le_refl _, h⟩
  | f + 1, d, s, h => by
    unfold growA
    split
    · exact ⟨d, Nat.le_refl _, h⟩
    · obtain ⟨e, he, q⟩ := growA_rch hok f (d + 1) (gStep lk n (allN n) d s) (by
        show (fun x => s.1 x || lyr lk n (allN n) s.1 x) = _
        rw [lyr_all hok, h]; rfl)
      exact ⟨e, by omega, q⟩
theorem tree_all {n : Nat} {lk : Lk} (hok : NetOk n lk) (hc : conn lk n) {x : Nat} (hx : x < n) : (growA lk n (allN n) 0 n 0 (gInit 0)).1 x = true := by
  obtain ⟨e, -, he⟩ := growA_rch hok n 0 (gInit 0) (by funext x; rfl)
  have hcnt : 1 ≤ cnt n (gInit 0).1 := fb_ct_pos.mpr ⟨0, hc.1, rfl⟩
  have hst := growA_stop (lk := lk) (n := n) (free := allN n) (t := 0) n 0 (gInit 0) (by omega)
  unfold stops at hst
  rw [lyr_all hok, he] at hst
  have hz : cnt n (nxs lk n (rch lk n e)) = 0 := by simpa using hst
  have hs : ∀ y, nxs lk n (rch lk n e) y = false := fun y => by
    rcases Bool.eq_false_or_eq_true (nxs lk n (rch lk n e) y) with z | z
    · obtain ⟨-, w, -, -, q⟩ := nxs_iff.mp z
      rw [fb_ct_zero.mp hz y (hok.nb q).2.1] at z; cases z
    · exact z
  rw [he]
  have h1 : rch lk n (e + (n - 1)) x = true := by rw [Nat.add_comm]; exact rch_up e (hc.2 x hx)
  rw [rch_stay hs] at h1
  exact h1
/-- a tree's cells, for the nodes of a set; the others as they were -/
def TR (P D K : Nat) (B : NS) (par : Nat → Option Nat) (dep : Nat → Nat) (m0 mu : jM) : Prop := ∀ x, x < 24 → (B x = true → mu P x = parI (par x) ∧ mu D x = nI (dep x) ∧ ∀ i, i < 32 → bt (mu K x) i = (B i && par i == some x)) ∧ (B x = false → mu P x = m0 P x ∧ mu D x = m0 D x ∧ mu K x = m0 K x)
section C48
variable {l : Launch} {G : jG} {mu : jM}
theorem c_nextTo (hl : l.stackTraces = false) (hG : jGok G) {n : Nat} {lk : Lk} (hok : NetOk n lk) (hN : NetC n lk mu) {S : NS} {m : Int32} (hS : Mk S m) : jCi l G yX2_nextTo cX2_nextTo 4 1 (some .int) [.ref 6, .int m] mu (fun v mu' => Mk (nxs lk n S) v ∧ mu' = mu) := by
  refine jCi.of (pad := 2) hl hG (by decide) (Nat.le_of_ble_eq_true rfl) (fun X h => ?_)
  show J l G X _ 4 0 [.ref 6, .int m, .float 0, .float 0] [] mu 0
  refine rX2_nextTo_0 h ?_
  have hn := hok.1
  have loop : ∀ (w a : Nat) (f : Int32), a + w = n → (∀ i, i < 32 → bt f i = (List.range a).any (fun y => S y && decide (i ∈ nbl lk y))) → J l G X (jRi G X (fun v mu' => Mk (nxs lk n S) v ∧ mu' = mu)) 4 4 [.ref 6, .int m, .int f, .int (nI a)] [] mu 0 := by
    intro w
    induction w with
    | zero =>
      intro a f ha hf
      have hle : mu 6 0 ≤ nI a := by rw [hN.1]; exact nI_le (by omega) (by omega)
      refine rX2_nextTo_4 h (fun z => absurd hle z) (fun _ => ?_) (fun z => absurd hle z) (fun z => absurd hle z)
      refine J_iret h dX2_nextTo_40 rfl ⟨fun i hi => ?_, rfl⟩
      rw [b_and, bt_not _ hi, hf i hi, hS i hi, show a = n by omega]
      unfold nxs
      exact Bool.and_comm _ _
    | succ w ih =>
      intro a f ha hf
      have hle : ¬ mu 6 0 ≤ nI a := by rw [hN.1]; exact nI_ge (by omega) (by omega)
      refine rX2_nextTo_4 h (fun _ _ => vp_in_nI (by omega) (by omega)) (fun z => absurd z hle) (fun _ q => ?_) (fun _ q => ?_)
      · refine rX2_nextTo_29 h ?_
        rw [bt_test _ (by omega), hS a (by omega)] at q
        rw [nI_1]
        refine ih (a + 1) f (by omega) (fun i hi => ?_)
        rw [hf i hi, List.range_succ, List.any_append]
        simp [q]
      · refine rX2_nextTo_29 h ?_
        rw [bt_test1 _ (by omega), hS a (by omega)] at q
        rw [nI_1, nI_clamp (by omega)]
        refine ih (a + 1) _ (by omega) (fun i hi => ?_)
        rw [b_or, hf i hi, nbl_bit hok hN.2.2.2 (by omega) hi, List.range_succ, List.any_append]
        simp [q]
  exact loop n 0 0 (by omega) (fun i hi => by rw [b_0]; rfl)
theorem all_mask : ∀ n, n < 25 → (1 <<< (nI n &&& 31)) - 1 = nI (2 ^ n - 1) := by decide +kernel
theorem c_allNodes (hl : l.stackTraces = false) (hG : jGok G) {n : Nat} (hn : n ≤ 24) (hN : mu 6 0 = nI n) : jCi l G yX2_allNodes cX2_allNodes 1 1 (some .int) [.ref 6] mu (fun v mu' => Mk (allN n) v ∧ mu' = mu) := by
  refine jCi.of (pad := 0) hl hG (by decide) (Nat.le_of_ble_eq_true rfl) (fun X h => ?_)
  show J l G X _ 1 0 [.ref 6] [] mu 0
  refine rX2_allNodes_0 h ?_
  rw [hN, all_mask n (by omega)]
  exact J_iret h dX2_allNodes_8 rfl ⟨fun i hi => bt_ones (by omega) i, rfl⟩
theorem c_isConnected (hl : l.stackTraces = false) (hG : jGok G) {n : Nat} {lk : Lk} (hok : NetOk n lk) (hN : NetC n lk mu) : jCi l G yX2_isConnected cX2_isConnected 3 2 (some .boolean) [.ref 6] mu (fun v mu' => tf v (conn lk n) ∧ mu' = mu) := by
  refine jCi.of (pad := 2) hl hG (by decide) (Nat.le_of_ble_eq_true rfl) (fun X h => ?_)
  show J l G X _ 3 0 [.ref 6, .float 0, .float 0] [] mu 0
  refine rX2_isConnected_0 h ?_
  have hn := hok.1
  have no : ¬ conn lk n → ∀ ls a b, ls = [.ref 6, .int a, .int b] → J l G X (jRi G X (fun v mu' => tf v (conn lk n) ∧ mu' = mu)) 3 45 ls [] mu 0 := fun q ls a b e => by
    subst e
    exact rX2_isConnected_45 h (J_iret h dX2_isConnected_46 rfl ⟨tf.zero q, rfl⟩)
  have loop : ∀ (w i : Nat) (m : Int32), n ≤ i + w → 1 ≤ i → i ≤ n ∨ i = 1 → Mk (rch lk n (i - 1)) m → J l G X (jRi G X (fun v mu' => tf v (conn lk n) ∧ mu' = mu)) 3 4 [.ref 6, .int m, .int (nI i)] [] mu 0 := by
    intro w
    have fin : ∀ (i : Nat) (m : Int32), n ≤ i → 1 ≤ i → i ≤ n ∨ i = 1 → Mk (rch lk n (i - 1)) m → J l G X (jRi G X (fun v mu' => tf v (conn lk n) ∧ mu' = mu)) 3 4 [.ref 6, .int m, .int (nI i)] [] mu 0 := by
      intro i m h1 h2 h3 hm
      have hle : mu 6 0 ≤ nI i := by rw [hN.1]; exact nI_le (by omega) (by omega)
      refine rX2_isConnected_4 h (fun _ q => ?_) (fun _ q => ?_) (fun z => absurd hle z)
      · rw [hN.1] at q
        refine no (fun z => ?_) _ _ _ rfl
        have : 0 < n := z.1
        exact absurd ((nI_leI (b := 0) (by omega) (by omega)).mp q) (by omega)
      · rw [hN.1] at q
        have h0 : 0 < n := Nat.pos_of_ne_zero (fun z => q (by rw [z]; decide))
        have hin : i = n := by omega
        subst hin
        refine rX2_isConnected_35 h (c_allNodes hl hG hn hN.1) (by decide) (Nat.zero_le _) (fun v m1 e1 => ?_)
        obtain ⟨e1, rfl⟩ := e1
        refine rX2_isConnected_38 h (fun q2 => ?_) (fun q2 => ?_)
        · refine no (fun z => q2 (b_ext (fun j hj => ?_))) _ _ _ rfl
          rw [hm j hj, e1 j hj]
          unfold allN
          rcases Nat.lt_or_ge j i with w | w
          · rw [z.2 j w]; simp [w]
          · rcases Bool.eq_false_or_eq_true (rch lk i (i - 1) j) with y | y
            · have := rch_sup hok h0 _ _ y; omega
            · rw [y]; simp; omega
        · refine J_iret h dX2_isConnected_46 rfl ⟨tf.one ⟨h0, fun x hx => ?_⟩, rfl⟩
          rw [← hm x (by omega), q2, e1 x (by omega)]
          simp [allN, hx]
    induction w with
    | zero => intro i m h1 h2 h3 hm; exact fin i m (by omega) h2 h3 hm
    | succ w ih =>
      intro i m h1 h2 h3 hm
      by_cases hi : n ≤ i
      · exact fin i m hi h2 h3 hm
      · have hle : ¬ mu 6 0 ≤ nI i := by rw [hN.1]; exact nI_ge (by omega) (by omega)
        refine rX2_isConnected_4 h (fun z => absurd z hle) (fun z => absurd z hle) (fun _ => ?_)
        refine rX2_isConnected_15 h (c_nextTo hl hG hok hN hm) (by decide) (Nat.zero_le _) (fun v m1 e1 => ?_)
        obtain ⟨e1, rfl⟩ := e1
        refine rX2_isConnected_18 h ?_
        rw [nI_1]
        refine ih (i + 1) _ (by omega) (by omega) (Or.inl (by omega)) (fun j hj => ?_)
        rw [b_or, hm j hj, e1 j hj, show i + 1 - 1 = (i - 1) + 1 by omega]
        rfl
  refine loop n 1 1 (by omega) (by omega) (Or.inr rfl) (fun j hj => ?_)
  rw [b_1 j hj]
  show _ = (j == 0)
  by_cases z : j = 0
  · simp [z]
  · simp [z]
theorem c_plantT (hl : l.stackTraces = false) (hG : jGok G) {r : Nat} (hr : r < 24) : jCv l G yX6_plant cX6_plant 2 1 [.ref 33, .int (nI r)] mu (fun mu' => mu' = wr (wr (wr mu 34 r (-1)) 35 r 0) 36 r 0) := by
  refine jCv.of (pad := 0) hl hG (by decide) (Nat.le_of_ble_eq_true rfl) (fun X h => ?_)
  show J l G X _ 2 0 [.ref 33, .int (nI r)] [] mu 0
  have hs : vp_in (nI r) 24 := vp_in_nI hr (by omega)
  refine rX6_plantT_0 h hs hs hs ?_
  rw [nI_clamp (by omega)]
  exact J_vret h dX6_plant_21 rfl
theorem c_hangT (hl : l.stackTraces = false) (hG : jGok G) {x y : Nat} (hx : x < 24) (hy : y < 24) (hxy : x ≠ y) : jCv l G yX6_hang cX6_hang 3 1 [.ref 33, .int (nI x), .int (nI y)] mu (fun mu' => mu' = wr (wr (wr (wr mu 34 x (nI y)) 35 x (mu 35 y + 1)) 36 x 0) 36 y (mu 36 y ||| (1 <<< (nI x &&& 31)))) := by
  refine jCv.of (pad := 0) hl hG (by decide) (Nat.le_of_ble_eq_true rfl) (fun X h => ?_)
  show J l G X _ 3 0 [.ref 33, .int (nI x), .int (nI y)] [] mu 0
  have hs : vp_in (nI x) 24 := vp_in_nI hx (by omega)
  have hs2 : vp_in (nI y) 24 := vp_in_nI hy (by omega)
  refine rX6_hangT_0 h hs hs2 hs hs hs2 hs2 ?_
  rw [nI_clamp (n := x) (by omega), nI_clamp (n := y) (by omega)]
  refine J_vret h dX6_hang_40 ?_
  have : wr (wr (wr mu 34 x (nI y)) 35 x (mu 35 y + 1)) 36 x 0 36 y = mu 36 y := by
    rw [rd_at]
    show (if y = x then _ else _) = _
    rw [if_neg (fun z => hxy z.symm)]; rfl
  rw [this]
theorem TR.hangT {B : NS} {par : Nat → Option Nat} {dep : Nat → Nat} {m0 m : jM} {x y : Nat} (h : TR 34 35 36 B par dep m0 m) (hx : x < 24) (hy : y < 24) (hxB : B x = false) (hyB : B y = true) (hp : par x = some y) (hd : dep x = dep y + 1) (hno : ∀ i, B i = true → par i ≠ some x) :
    TR 34 35 36 (fun i => B i || i == x) par dep m0 (wr (wr (wr (wr m 34 x (nI y)) 35 x (m 35 y + 1)) 36 x 0) 36 y (m 36 y ||| (1 <<< (nI x &&& 31)))) := by
  have hxy : x ≠ y := fun z => by rw [z, hyB] at hxB; cases hxB
  intro i hi
  have eP : (wr (wr (wr (wr m 34 x (nI y)) 35 x (m 35 y + 1)) 36 x 0) 36 y (m 36 y ||| (1 <<< (nI x &&& 31)))) 34 i = if i = x then nI y else m 34 i := rfl
  have eD : (wr (wr (wr (wr m 34 x (nI y)) 35 x (m 35 y + 1)) 36 x 0) 36 y (m 36 y ||| (1 <<< (nI x &&& 31)))) 35 i = if i = x then m 35 y + 1 else m 35 i := rfl
  have eK : (wr (wr (wr (wr m 34 x (nI y)) 35 x (m 35 y + 1)) 36 x 0) 36 y (m 36 y ||| (1 <<< (nI x &&& 31)))) 36 i = if i = y then (m 36 y ||| (1 <<< (nI x &&& 31))) else if i = x then 0 else m 36 i := rfl
  rw [eP, eD, eK]
  by_cases zx : i = x
  · subst zx
    refine ⟨fun _ => ⟨?_, ?_, fun j hj => ?_⟩, fun z => by simp at z⟩
    · rw [if_pos rfl, hp]; rfl
    · rw [if_pos rfl, ((h y hy).1 hyB).2.1, nI_1, hd]
    · rw [if_neg hxy, if_pos rfl, b_0]
      rcases Bool.eq_false_or_eq_true (B j) with w | w
      · have := hno j w
        simp [w, this]
      · by_cases u : j = i
        · subst u
          rw [hp]
          simp [w]
          exact fun z => hxy z.symm
        · simp [w, u]
  · rw [if_neg zx, if_neg zx]
    have hbi : (B i || i == x) = B i := by simp [zx]
    change ((B i || i == x) = true → _) ∧ ((B i || i == x) = false → _)
    rw [hbi]
    refine ⟨fun hB => ?_, fun hB => ?_⟩
    · obtain ⟨g1, g2, g3⟩ := (h i hi).1 hB
      refine ⟨g1, g2, fun j hj => ?_⟩
      by_cases zy : i = y
      · rw [if_pos zy, ← zy, bt_set _ (by omega) hj, g3 j hj]
        by_cases u : j = x
        · subst u
          rw [hp, ← zy]
          simp
        · have hu : (j == x) = false := by simpa using u
          simp [u, hu]
      · rw [if_neg zy, if_neg zx, g3 j hj]
        by_cases u : j = x
        · subst u
          rw [hp, hxB]
          simp
          exact fun z => zy z.symm
        · have hu : (j == x) = false := by simpa using u
          simp [hu]
    · have zy : ¬ i = y := fun z => by rw [z, hyB] at hB; cases hB
      rw [if_neg zy, if_neg zx]
      exact (h i hi).2 hB
theorem c_plantC (hl : l.stackTraces = false) (hG : jGok G) {r : Nat} (hr : r < 24) : jCv l G yX6_plant cX6_plant 2 1 [.ref 38, .int (nI r)] mu (fun mu' => mu' = wr (wr (wr mu 39 r (-1)) 40 r 0) 41 r 0) := by
  refine jCv.of (pad := 0) hl hG (by decide) (Nat.le_of_ble_eq_true rfl) (fun X h => ?_)
  show J l G X _ 2 0 [.ref 38, .int (nI r)] [] mu 0
  have hs : vp_in (nI r) 24 := vp_in_nI hr (by omega)
  refine rX6_plantC_0 h hs hs hs ?_
  rw [nI_clamp (by omega)]
  exact J_vret h dX6_plant_21 rfl
theorem c_hangC (hl : l.stackTraces = false) (hG : jGok G) {x y : Nat} (hx : x < 24) (hy : y < 24) (hxy : x ≠ y) : jCv l G yX6_hang cX6_hang 3 1 [.ref 38, .int (nI x), .int (nI y)] mu (fun mu' => mu' = wr (wr (wr (wr mu 39 x (nI y)) 40 x (mu 40 y + 1)) 41 x 0) 41 y (mu 41 y ||| (1 <<< (nI x &&& 31)))) := by
  refine jCv.of (pad := 0) hl hG (by decide) (Nat.le_of_ble_eq_true rfl) (fun X h => ?_)
  show J l G X _ 3 0 [.ref 38, .int (nI x), .int (nI y)] [] mu 0
  have hs : vp_in (nI x) 24 := vp_in_nI hx (by omega)
  have hs2 : vp_in (nI y) 24 := vp_in_nI hy (by omega)
  refine rX6_hangC_0 h hs hs2 hs hs hs2 hs2 ?_
  rw [nI_clamp (n := x) (by omega), nI_clamp (n := y) (by omega)]
  refine J_vret h dX6_hang_40 ?_
  have : wr (wr (wr mu 39 x (nI y)) 40 x (mu 40 y + 1)) 41 x 0 41 y = mu 41 y := by
    rw [rd_at]
    show (if y = x then _ else _) = _
    rw [if_neg (fun z => hxy z.symm)]; rfl
  rw [this]
theorem TR.hangC {B : NS} {par : Nat → Option Nat} {dep : Nat → Nat} {m0 m : jM} {x y : Nat} (h : TR 39 40 41 B par dep m0 m) (hx : x < 24) (hy : y < 24) (hxB : B x = false) (hyB : B y = true) (hp : par x = some y) (hd : dep x = dep y + 1) (hno : ∀ i, B i = true → par i ≠ some x) :
    TR 39 40 41 (fun i => B i || i == x) par dep m0 (wr (wr (wr (wr m 39 x (nI y)) 40 x (m 40 y + 1)) 41 x 0) 41 y (m 41 y ||| (1 <<< (nI x &&& 31)))) := by
  have hxy : x ≠ y := fun z => by rw [z, hyB] at hxB; cases hxB
  intro i hi
  have eP : (wr (wr (wr (wr m 39 x (nI y)) 40 x (m 40 y + 1)) 41 x 0) 41 y (m 41 y ||| (1 <<< (nI x &&& 31)))) 39 i = if i = x then nI y else m 39 i := rfl
  have eD : (wr (wr (wr (wr m 39 x (nI y)) 40 x (m 40 y + 1)) 41 x 0) 41 y (m 41 y ||| (1 <<< (nI x &&& 31)))) 40 i = if i = x then m 40 y + 1 else m 40 i := rfl
  have eK : (wr (wr (wr (wr m 39 x (nI y)) 40 x (m 40 y + 1)) 41 x 0) 41 y (m 41 y ||| (1 <<< (nI x &&& 31)))) 41 i = if i = y then (m 41 y ||| (1 <<< (nI x &&& 31))) else if i = x then 0 else m 41 i := rfl
  rw [eP, eD, eK]
  by_cases zx : i = x
  · subst zx
    refine ⟨fun _ => ⟨?_, ?_, fun j hj => ?_⟩, fun z => by simp at z⟩
    · rw [if_pos rfl, hp]; rfl
    · rw [if_pos rfl, ((h y hy).1 hyB).2.1, nI_1, hd]
    · rw [if_neg hxy, if_pos rfl, b_0]
      rcases Bool.eq_false_or_eq_true (B j) with w | w
      · have := hno j w
        simp [w, this]
      · by_cases u : j = i
        · subst u
          rw [hp]
          simp [w]
          exact fun z => hxy z.symm
        · simp [w, u]
  · rw [if_neg zx, if_neg zx]
    have hbi : (B i || i == x) = B i := by simp [zx]
    change ((B i || i == x) = true → _) ∧ ((B i || i == x) = false → _)
    rw [hbi]
    refine ⟨fun hB => ?_, fun hB => ?_⟩
    · obtain ⟨g1, g2, g3⟩ := (h i hi).1 hB
      refine ⟨g1, g2, fun j hj => ?_⟩
      by_cases zy : i = y
      · rw [if_pos zy, ← zy, bt_set _ (by omega) hj, g3 j hj]
        by_cases u : j = x
        · subst u
          rw [hp, ← zy]
          simp
        · have hu : (j == x) = false := by simpa using u
          simp [u, hu]
      · rw [if_neg zy, if_neg zx, g3 j hj]
        by_cases u : j = x
        · subst u
          rw [hp, hxB]
          simp
          exact fun z => zy z.symm
        · have hu : (j == x) = false := by simpa using u
          simp [hu]
    · have zy : ¬ i = y := fun z => by rw [z, hyB] at hB; cases hB
      rw [if_neg zy, if_neg zx]
      exact (h i hi).2 hB
end C48
