/-! ===== the class's row of letters ===== -/
theorem nI_nn {n : Nat} (h : n < 2 ^ 31) : ¬ nI n < 0 := by rw [nL0, nI_ltI h (by omega)]; omega
def LetC (lt : List Lt) (ct : Nat → Nat) (mu : jM) : Prop :=
  mu 25 2 = nI lt.length ∧ (∀ j x, lt[j]? = some x → mu 27 j = nI x.1 ∧ mu 28 j = nI x.2.1 ∧ mu 29 j = nI x.2.2.1 ∧ mu 30 j = nI x.2.2.2.1 ∧ mu 31 j = x.2.2.2.2) ∧ ∀ c, c < 3 → mu 32 c = nI (ct c)
theorem LetC.congr {lt : List Lt} {ct : Nat → Nat} {mu mu' : jM} (h : LetC lt ct mu) (h25 : mu' 25 2 = mu 25 2) (hc : ∀ c, 27 ≤ c → c ≤ 32 → mu' c = mu c) : LetC lt ct mu' := by
  refine ⟨by rw [h25]; exact h.1, fun j x hx => ?_, fun c hc3 => ?_⟩
  · rw [hc 27 (by omega) (by omega), hc 28 (by omega) (by omega), hc 29 (by omega) (by omega), hc 30 (by omega) (by omega), hc 31 (by omega) (by omega)]; exact h.2.1 j x hx
  · rw [hc 32 (by omega) (by omega)]; exact h.2.2 c hc3
theorem LetC.same {lt : List Lt} {ct : Nat → Nat} {mu mu' : jM} {W : List Nat} (h : LetC lt ct mu) (hs : Same W mu mu') (hw : W.all (fun c => decide (c < 25 ∨ 32 < c)) = true) : LetC lt ct mu' :=
  h.congr (by rw [hs 25 (fun q => by have := List.all_eq_true.mp hw _ q; simp at this)]) (fun c h1 h2 => hs c (fun q => by have := List.all_eq_true.mp hw c q; simp at this; omega))
theorem ctAdd_app (ct : Nat → Nat) (l l' : List Lt) : ctAdd (ctAdd ct l) l' = ctAdd ct (l ++ l') := by
  funext c
  unfold ctAdd
  rw [List.countP_append]
  omega
theorem ctAdd_nil (ct : Nat → Nat) : ctAdd ct [] = ct := by
  funext c
  unfold ctAdd
  simp
def WP : List Nat := [25, 27, 28, 29, 30, 31, 32]
section C59
variable {l : Launch} {G : jG} {mu : jM}
theorem c_send (hl : l.stackTraces = false) (hG : jGok G) {lt : List Lt} {ct : Nat → Nat} (hL : LetC lt ct mu) (hlen : lt.length < 512) {K : Nat} (hK : K ≤ 7) (a b k : Nat) (v : Int32) :
    jCv l G yX3_send cX3_send 6 1 [.ref 25, .int (nI K), .int (nI a), .int (nI b), .int (nI k), .int v] mu (fun mu' => LetC (lt ++ [(K, a, b, k, v)]) (ctAdd ct [(K, a, b, k, v)]) mu' ∧ Same WP mu mu') := by
  refine jCv.of (pad := 0) hl hG (by decide) (Nat.le_of_ble_eq_true rfl) (fun X h => ?_)
  show J l G X _ 6 0 [.ref 25, .int (nI K), .int (nI a), .int (nI b), .int (nI k), .int v] [] mu 0
  have e1 : mu 25 2 = nI lt.length := hL.1
  have vs : vp_in (mu 25 2) 512 := by rw [e1]; exact vp_in_nI hlen (by omega)
  have hlt : mu 25 2 < 512 := by rw [e1]; exact nI_lt (b := 512) hlen (by omega)
  have key : ∀ c, c < 3 → c = min K 2 → ∀ x : Int32, x = nI c → LetC (lt ++ [(K, a, b, k, v)]) (ctAdd ct [(K, a, b, k, v)]) (wr (wr (wr (wr (wr (wr (wr mu 27 lt.length (nI K)) 28 lt.length (nI a)) 29 lt.length (nI b)) 30 lt.length (nI k)) 31 lt.length v) 25 2 (nI lt.length + 1)) 32 x.toNatClampNeg (mu 32 x.toNatClampNeg + 1)) := by
    intro c hc hcK x hx
    rw [hx, nI_clamp (by omega)]
    refine ⟨?_, fun j y hy => ?_, fun c' hc' => ?_⟩
    · show nI lt.length + 1 = _
      rw [List.length_append, nI_1]; rfl
    · show upd (mu 27) lt.length (nI K) j = _ ∧ upd (mu 28) lt.length (nI a) j = _ ∧ upd (mu 29) lt.length (nI b) j = _ ∧ upd (mu 30) lt.length (nI k) j = _ ∧ upd (mu 31) lt.length v j = _
      rw [List.getElem?_append] at hy
      split at hy
      · next q =>
        simp only [upd, if_neg (show ¬ j = lt.length by omega)]
        exact hL.2.1 j y hy
      · next q =>
        have hj : j = lt.length := by
          rcases Nat.lt_or_ge j (lt.length + 1) with z | z
          · omega
          · rw [List.getElem?_eq_none (by simp; omega)] at hy; cases hy
        subst hj
        simp at hy
        subst hy
        simp [upd]
    · show upd (mu 32) c (mu 32 c + 1) c' = _
      unfold upd ctAdd
      rw [List.countP_singleton]
      by_cases e : c' = c
      · rw [if_pos e, hL.2.2 c hc, nI_1, e]
        simp [← hcK]
      · rw [if_neg e, hL.2.2 c' hc']
        have : ¬ min K 2 = c' := fun z => e (z.symm.trans hcK.symm)
        simp [this]
  have sm : ∀ c (x : Int32), Same WP mu (wr (wr (wr (wr (wr (wr (wr mu 27 lt.length (nI K)) 28 lt.length (nI a)) 29 lt.length (nI b)) 30 lt.length (nI k)) 31 lt.length v) 25 2 (nI lt.length + 1)) 32 c x) := fun c x =>
    ((((((Same.wr (by decide)).trans' (Same.wr (by decide))).trans' (Same.wr (by decide))).trans' (Same.wr (by decide))).trans' (Same.wr (by decide))).trans' (Same.wr (by decide))).trans' (Same.wr (by decide))
  have v3 : ¬ 2 ≤ nI K → vp_in (nI K) 3 := fun q => vp_in_nI (by
    rcases Nat.lt_or_ge K 2 with z | z
    · omega
    · exact absurd (nI_le (a := 2) z (by omega)) q) (by omega)
  refine rX3_send_0 h (fun _ => vs) (fun _ => vs) (fun _ => vs) (fun _ => vs) (fun _ => vs) (fun _ q => v3 q) (fun _ q => v3 q) (fun _ q => ?_) (fun _ q => ?_) (fun q => absurd hlt q)
  · rw [e1, nI_clamp (by omega)]
    have hK2 : 2 ≤ K := by
      rcases Nat.lt_or_ge K 2 with z | z
      · exact absurd q (nI_ge (b := 2) z (by omega))
      · exact z
    exact J_vret h dX3_send_102 ⟨key 2 (by omega) (by omega) 2 rfl, sm _ _⟩
  · rw [e1, nI_clamp (by omega)]
    have hK2 : K < 2 := by
      rcases Nat.lt_or_ge K 2 with z | z
      · exact z
      · exact absurd (nI_le (a := 2) z (by omega)) q
    exact J_vret h dX3_send_102 ⟨key K (by omega) (by omega) (nI K) rfl, sm _ _⟩
theorem c_remove (hl : l.stackTraces = false) (hG : jGok G) {lt : List Lt} {ct : Nat → Nat} (hL : LetC lt ct mu) (hlen : lt.length ≤ 512) {i : Nat} (hi : i < lt.length) :
    jCv l G yX3_remove cX3_remove 3 2 [.ref 25, .int (nI i)] mu (fun mu' => LetC (lt.eraseIdx i) ct mu' ∧ Same WP mu mu') := by
  refine jCv.of (pad := 1) hl hG (by decide) (Nat.le_of_ble_eq_true rfl) (fun X h => ?_)
  show J l G X _ 3 0 [.ref 25, .int (nI i), .float 0] [] mu 0
  refine rX3_remove_0 h ?_
  have e1 : mu 25 2 - 1 = nI (lt.length - 1) := by rw [hL.1, nL1, nI_sub (by omega)]
  rw [e1]
  -- rows below x are moved
  have loop : ∀ (m x : Nat) (m1 : jM), x + m = 5 → m1 25 2 = nI (lt.length - 1) → m1 32 = mu 32 → (∀ c, c < 5 → m1 (27 + c) = if c < x then va_cpy (mu (27 + c)) (mu (27 + c)) (i + 1) i (lt.length - 1 - i) else mu (27 + c)) → Same WP mu m1 →
      J l G X (jRv G X (fun mu' => LetC (lt.eraseIdx i) ct mu' ∧ Same WP mu mu')) 3 12 [.ref 25, .int (nI i), .int (nI x)] [] m1 0 := by
    intro m
    induction m with
    | zero =>
      intro x m1 hx q1 q2 q3 q4
      have h5 : 5 ≤ nI x := nI_le (a := 5) (by omega) (by omega)
      refine rX3_remove_12 (r3 := 27) (r6 := 27) h (fun z => absurd h5 z) (fun z => absurd h5 z) rfl (fun z => absurd h5 z) (fun z => absurd h5 z) rfl (fun _ => ?_) (fun z => absurd h5 z)
      refine J_vret h dX3_remove_48 ⟨⟨?_, fun j y hy => ?_, fun c hc => ?_⟩, q4⟩
      · rw [q1, List.length_eraseIdx_of_lt hi]
      · have r0 := q3 0 (by omega)
        have r1 := q3 1 (by omega)
        have r2 := q3 2 (by omega)
        have r3 := q3 3 (by omega)
        have r4 := q3 4 (by omega)
        rw [if_pos (by omega)] at r0 r1 r2 r3 r4
        simp only [Nat.add_zero, Nat.reduceAdd] at r0 r1 r2 r3 r4
        rw [r0, r1, r2, r3, r4]
        rw [List.getElem?_eraseIdx] at hy
        unfold va_cpy
        split at hy
        · next z =>
          rw [if_neg (by omega), if_neg (by omega), if_neg (by omega), if_neg (by omega), if_neg (by omega)]
          exact hL.2.1 j y hy
        · next z =>
          have hj := (List.getElem?_eq_some_iff.mp hy).1
          rw [if_pos (by omega), if_pos (by omega), if_pos (by omega), if_pos (by omega), if_pos (by omega), show i + 1 + (j - i) = j + 1 by omega]
          exact hL.2.1 (j + 1) y hy
      · rw [q2]; exact hL.2.2 c hc
    | succ m ih =>
      intro x m1 hx q1 q2 q3 q4
      have h5 : ¬ 5 ≤ nI x := nI_ge (b := 5) (by omega) (by omega)
      have hcx : (nI x).toNatClampNeg = x := nI_clamp (by omega)
      have hr : [27, 28, 29, 30, 31][(nI x).toNatClampNeg]? = some (27 + x) := by
        rw [hcx]
        have : x = 0 ∨ x = 1 ∨ x = 2 ∨ x = 3 ∨ x = 4 := by omega
        rcases this with rfl | rfl | rfl | rfl | rfl <;> rfl
      have hs : jShp[27 + x]? = some (.inr (0, 512, fun _ => none)) := by
        have : x = 0 ∨ x = 1 ∨ x = 2 ∨ x = 3 ∨ x = 4 := by omega
        rcases this with rfl | rfl | rfl | rfl | rfl <;> rfl
      have vx : vp_in (nI x) 5 := vp_in_nI (by omega) (by omega)
      refine rX3_remove_12 (r3 := 27 + x) (r6 := 27 + x) h (fun _ => vx) (fun _ => hr) hs (fun _ => vx) (fun _ => hr) hs (fun z => absurd z h5) (fun _ => ?_)
      have c1 : m1 25 2 - nI i = nI (lt.length - 1 - i) := by rw [q1, nI_sub (by omega)]
      rw [c1, nI_1]
      have k1 : (nI (i + 1)).toNatClampNeg = i + 1 := nI_clamp (by omega)
      have k2 : (nI i).toNatClampNeg = i := nI_clamp (by omega)
      have k3 : (nI (lt.length - 1 - i)).toNatClampNeg = lt.length - 1 - i := nI_clamp (by omega)
      refine rX3_remove_39 h hs hs (nI_nn (by omega)) (nI_nn (by omega)) (nI_nn (by omega)) (by rw [k1, k3]; omega) (by rw [k2, k3]; omega) (by decide) ?_
      rw [k1, k2, k3]
      refine rX3_remove_42 h ?_
      rw [nI_1]
      have hw : 27 + x ∈ WP := by
        have : x = 0 ∨ x = 1 ∨ x = 2 ∨ x = 3 ∨ x = 4 := by omega
        rcases this with rfl | rfl | rfl | rfl | rfl <;> decide
      refine ih (x + 1) _ (by omega) ?_ ?_ (fun c hc => ?_) (q4.trans' (Same.put hw))
      · rw [put_ne _ _ (by omega)]; exact q1
      · rw [put_ne _ _ (by omega)]; exact q2
      · by_cases e : c = x
        · subst e
          rw [put_at, if_pos (by omega)]
          have := q3 c hc
          rw [if_neg (by omega)] at this
          rw [this]
        · rw [put_ne _ _ (by omega), q3 c hc]
          by_cases e2 : c < x
          · rw [if_pos e2, if_pos (by omega)]
          · rw [if_neg e2, if_neg (by omega)]
  refine loop 5 0 _ (by omega) rfl rfl (fun c hc => ?_) (Same.wr (by decide))
  rw [if_neg (by omega), rd_ne _ _ _ (by omega)]
theorem c_isIn (hl : l.stackTraces = false) (hG : jGok G) {S : NS} {m : Int32} (hS : ∀ i, i < 32 → bt m i = S i) {a : Nat} (ha : a < 32) : jCi l G yX5_isIn cX5_isIn 2 1 (some .boolean) [.int m, .int (nI a)] mu (fun v mu' => tf v (S a = true) ∧ mu' = mu) := by
  refine jCi.of (pad := 0) hl hG (by decide) (Nat.le_of_ble_eq_true rfl) (fun X h => ?_)
  show J l G X _ 2 0 [.int m, .int (nI a)] [] mu 0
  refine rX5_isIn_0 h (fun q => ?_) (fun q => ?_)
  · rw [bt_test _ ha, hS a ha] at q
    exact J_iret h dX5_isIn_13 rfl ⟨tf.zero (by rw [q]; decide), rfl⟩
  · rw [bt_test1 _ ha, hS a ha] at q
    exact J_iret h dX5_isIn_13 rfl ⟨tf.one q, rfl⟩
theorem c_boxOf5 (hl : l.stackTraces = false) (hG : jGok G) (a : Nat) {k : Nat} (hk : k < 2 ^ 31) : jCi l G yX5_boxOf cX5_boxOf 2 1 (some .int) [.int (nI a), .int (nI k)] mu (fun v mu' => v = nI (bxN a k) ∧ mu' = mu) := by
  refine jCi.of (pad := 0) hl hG (by decide) (Nat.le_of_ble_eq_true rfl) (fun X h => ?_)
  show J l G X _ 2 0 [.int (nI a), .int (nI k)] [] mu 0
  refine rX5_boxOf_0 h ?_
  rw [bx_nI hk]
  exact J_iret h dX5_boxOf_8 rfl ⟨rfl, rfl⟩
/-- letters by ports -/
theorem c_sendByPorts (hl : l.stackTraces = false) (hG : jGok G) {n : Nat} {lk : Lk} (hok : NetOk n lk) (hN : PortC (nbl lk) mu) {lt : List Lt} {ct : Nat → Nat} (hL : LetC lt ct mu) {K : Nat} (hK : K ≤ 7) {a k : Nat} (ha : a < 24) (hk : mu 45 a = nI k) {S : NS} {m : Int32} (hS : ∀ i, i < 32 → bt m i = S i) (hlen : (lt ++ toL K a k ((nbl lk a).filter S)).length ≤ 512) :
    jCv l G yX5_sendByPorts cX5_sendByPorts 6 2 [.ref 19, .int (nI K), .int (nI a), .int m] mu (fun mu' => LetC (lt ++ toL K a k ((nbl lk a).filter S)) (ctAdd ct (toL K a k ((nbl lk a).filter S))) mu' ∧ Same WP mu mu') := by
  refine jCv.of (pad := 2) hl hG (by decide) (Nat.le_of_ble_eq_true rfl) (fun X h => ?_)
  show J l G X _ 6 0 [.ref 19, .int (nI K), .int (nI a), .int m, .float 0, .float 0] [] mu 0
  refine rX5_sendByPorts_0 h ?_
  have h24 := nbl24 hok a
  have hn24 := hok.1
  have hca : (nI a).toNatClampNeg = a := nI_clamp (by omega)
  have loop : ∀ (w p : Nat) (lt1 : List Lt) (ct1 : Nat → Nat) (m1 : jM), p + w = (nbl lk a).length → LetC lt1 ct1 m1 → Same WP mu m1 → lt1 ++ toL K a k (((nbl lk a).drop p).filter S) = lt ++ toL K a k ((nbl lk a).filter S) → ctAdd ct1 (toL K a k (((nbl lk a).drop p).filter S)) = ctAdd ct (toL K a k ((nbl lk a).filter S)) →
      J l G X (jRv G X (fun mu' => LetC (lt ++ toL K a k ((nbl lk a).filter S)) (ctAdd ct (toL K a k ((nbl lk a).filter S))) mu' ∧ Same WP mu mu')) 6 3 [.ref 19, .int (nI K), .int (nI a), .int m, .int (nI p), .float 0] [] m1 0 := by
    intro w
    induction w with
    | zero =>
      intro p lt1 ct1 m1 hp q1 q2 q3 q4
      have N1 : PortC (nbl lk) m1 := hN.congr (q2 9 (by decide)) (q2 10 (by decide)) (q2 11 (by decide)) (q2 12 (by decide))
      have hle : m1 9 (nI a).toNatClampNeg ≤ nI p := by rw [hca, (N1 a ha).1]; exact nI_le (by omega) (by omega)
      refine rX5_sendByPorts_3 h (vp_in_nI ha (by omega)) (fun z => absurd hle z) (fun _ => ?_) (fun z => absurd hle z)
      rw [List.drop_eq_nil_of_le (by omega)] at q3 q4
      simp only [List.filter_nil, toL, List.map_nil, List.append_nil] at q3 q4
      rw [ctAdd_nil] at q4
      subst q4
      rw [q3] at q1
      exact J_vret h dX5_sendByPorts_67 ⟨q1, q2⟩
    | succ w ih =>
      intro p lt1 ct1 m1 hp q1 q2 q3 q4
      have N1 : PortC (nbl lk) m1 := hN.congr (q2 9 (by decide)) (q2 10 (by decide)) (q2 11 (by decide)) (q2 12 (by decide))
      have hle : ¬ m1 9 (nI a).toNatClampNeg ≤ nI p := by rw [hca, (N1 a ha).1]; exact nI_ge (by omega) (by omega)
      obtain ⟨b, hb⟩ : ∃ b, (nbl lk a)[p]? = some b := ⟨_, List.getElem?_eq_getElem (by omega : p < (nbl lk a).length)⟩
      have hbn := (hok.nb (List.mem_of_getElem? hb)).2.1
      have hdr : (nbl lk a).drop p = b :: (nbl lk a).drop (p + 1) := by
        rw [List.drop_eq_getElem_cons (by omega : p < (nbl lk a).length)]
        congr 1
        exact (List.getElem?_eq_some_iff.mp hb).2
      have c1 : nI a * 24 + nI p = nI (a * 24 + p) := by rw [nL24, nI_mul, nI_add]
      have k1 : (nI (a * 24 + p)).toNatClampNeg = a * 24 + p := nI_clamp (by omega)
      refine rX5_sendByPorts_3 h (vp_in_nI ha (by omega)) (fun _ => by rw [c1]; exact vp_in_nI (by omega) (by omega)) (fun z => absurd z hle) (fun _ => ?_)
      rw [c1, k1, ((N1 a ha).2.2 p b hb).1]
      refine rX5_sendByPorts_37 h (c_isIn hl hG hS (by omega : b < 32)) (by decide) (Nat.zero_le _) (fun v m2 e1 => ?_)
      obtain ⟨hv, rfl⟩ := e1
      refine rX5_sendByPorts_40 h (fun _ => vp_in_nI ha (by omega)) (fun q => ?_) (fun q => ?_)
      · have hSb : S b = false := by simpa using hv.no q
        refine rX5_sendByPorts_61 h ?_
        rw [nI_1]
        rw [hdr, List.filter_cons_of_neg (by rw [hSb]; decide)] at q3 q4
        exact J_forget 5 (ih (p + 1) lt1 ct1 m2 (by omega) q1 q2 q3 q4)
      · have hSb : S b = true := hv.yes q
        rw [hca, q2 45 (by decide), hk]
        rw [hdr, List.filter_cons_of_pos hSb] at q3 q4
        have hl1 : lt1.length < 512 := by
          have h9 := hlen
          rw [← q3] at h9
          simp only [toL, List.map_cons, List.length_append, List.length_cons] at h9
          omega
        refine rX5_sendByPorts_58 h (c_send hl hG q1 hl1 hK a b k 0) (by decide) (Nat.zero_le _) (fun m3 e2 => ?_)
        refine rX5_sendByPorts_61 h ?_
        rw [nI_1]
        refine J_forget 5 (ih (p + 1) _ _ m3 (by omega) e2.1 (q2.trans' e2.2) ?_ ?_)
        · rw [← q3, List.append_assoc]; rfl
        · rw [← q4, ctAdd_app]; rfl
  exact loop _ 0 lt ct mu (Nat.zero_add _) hL Same.rfl' (by rw [List.drop_zero]) (by rw [List.drop_zero])
/-- letters by numbers -/
theorem c_sendByNumbers (hl : l.stackTraces = false) (hG : jGok G) {n : Nat} (hn24 : n ≤ 24) (hN : mu 6 0 = nI n) {lt : List Lt} {ct : Nat → Nat} (hL : LetC lt ct mu) {K : Nat} (hK : K ≤ 7) {a k : Nat} (ha : a < 24) (hk : mu 45 a = nI k) {S : NS} {m : Int32} (hS : ∀ i, i < 32 → bt m i = S i) (hlen : (lt ++ toL K a k ((List.range n).filter S)).length ≤ 512) :
    jCv l G yX5_sendByNumbers cX5_sendByNumbers 5 2 [.ref 19, .int (nI K), .int (nI a), .int m] mu (fun mu' => LetC (lt ++ toL K a k ((List.range n).filter S)) (ctAdd ct (toL K a k ((List.range n).filter S))) mu' ∧ Same WP mu mu') := by
  refine jCv.of (pad := 1) hl hG (by decide) (Nat.le_of_ble_eq_true rfl) (fun X h => ?_)
  show J l G X _ 5 0 [.ref 19, .int (nI K), .int (nI a), .int m, .float 0] [] mu 0
  refine rX5_sendByNumbers_0 h ?_
  have hca : (nI a).toNatClampNeg = a := nI_clamp (by omega)
  have loop : ∀ (w p : Nat) (lt1 : List Lt) (ct1 : Nat → Nat) (m1 : jM), p + w = n → LetC lt1 ct1 m1 → Same WP mu m1 → lt1 ++ toL K a k ((List.range' p w).filter S) = lt ++ toL K a k ((List.range n).filter S) → ctAdd ct1 (toL K a k ((List.range' p w).filter S)) = ctAdd ct (toL K a k ((List.range n).filter S)) →
      J l G X (jRv G X (fun mu' => LetC (lt ++ toL K a k ((List.range n).filter S)) (ctAdd ct (toL K a k ((List.range n).filter S))) mu' ∧ Same WP mu mu')) 5 3 [.ref 19, .int (nI K), .int (nI a), .int m, .int (nI p)] [] m1 0 := by
    intro w
    induction w with
    | zero =>
      intro p lt1 ct1 m1 hp q1 q2 q3 q4
      have hle : m1 6 0 ≤ nI p := by rw [q2 6 (by decide), hN]; exact nI_le (by omega) (by omega)
      refine rX5_sendByNumbers_3 h (fun _ => ?_) (fun z => absurd hle z)
      simp only [List.range'_zero, List.filter_nil, toL, List.map_nil, List.append_nil] at q3 q4
      rw [ctAdd_nil] at q4
      subst q4
      rw [q3] at q1
      exact J_vret h dX5_sendByNumbers_48 ⟨q1, q2⟩
    | succ w ih =>
      intro p lt1 ct1 m1 hp q1 q2 q3 q4
      have hle : ¬ m1 6 0 ≤ nI p := by rw [q2 6 (by decide), hN]; exact nI_ge (by omega) (by omega)
      refine rX5_sendByNumbers_3 h (fun z => absurd z hle) (fun _ => ?_)
      refine rX5_sendByNumbers_18 h (c_isIn hl hG hS (by omega : p < 32)) (by decide) (Nat.zero_le _) (fun v m2 e1 => ?_)
      obtain ⟨hv, rfl⟩ := e1
      rw [List.range'_succ] at q3 q4
      refine rX5_sendByNumbers_21 h (fun _ => vp_in_nI ha (by omega)) (fun q => ?_) (fun q => ?_)
      · have hSb : S p = false := by simpa using hv.no q
        refine rX5_sendByNumbers_42 h ?_
        rw [nI_1]
        rw [List.filter_cons_of_neg (by rw [hSb]; decide)] at q3 q4
        exact ih (p + 1) lt1 ct1 m2 (by omega) q1 q2 q3 q4
      · have hSb : S p = true := hv.yes q
        rw [hca, q2 45 (by decide), hk]
        rw [List.filter_cons_of_pos hSb] at q3 q4
        have hl1 : lt1.length < 512 := by
          have h9 := hlen
          rw [← q3] at h9
          simp only [toL, List.map_cons, List.length_append, List.length_cons] at h9
          omega
        refine rX5_sendByNumbers_39 h (c_send hl hG q1 hl1 hK a p k 0) (by decide) (Nat.zero_le _) (fun m3 e2 => ?_)
        refine rX5_sendByNumbers_42 h ?_
        rw [nI_1]
        refine ih (p + 1) _ _ m3 (by omega) e2.1 (q2.trans' e2.2) ?_ ?_
        · rw [← q3, List.append_assoc]; rfl
        · rw [← q4, ctAdd_app]; rfl
  exact loop n 0 lt ct mu (Nat.zero_add _) hL Same.rfl' (by rw [List.range_eq_range']) (by rw [List.range_eq_range'])
end C59
