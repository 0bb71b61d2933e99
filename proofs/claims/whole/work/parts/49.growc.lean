/-! ===== the class's trees grow ===== -/
section C49
variable {l : Launch} {G : jG} {mu : jM}
theorem c_growT (hl : l.stackTraces = false) (hG : jGok G) {n : Nat} {lk : Lk} (hok : NetOk n lk) (hN : NetC n lk mu) {free : NS} {fr : Int32} (hf : Mk free fr) {r t : Nat} (hr : r < n) (ht : t ≤ 7) :
    jCi l G yX6_grow cX6_grow 10 3 (some .int) [.ref 33, .ref 6, .int (nI r), .int fr, .int (nI t)] mu (fun v mu' => Mk (growA lk n free t n 0 (gInit r)).1 v ∧ TR 34 35 36 (growA lk n free t n 0 (gInit r)).1 (growA lk n free t n 0 (gInit r)).2.2.1 (growA lk n free t n 0 (gInit r)).2.2.2 mu mu' ∧ Same [34, 35, 36] mu mu') := by
  refine jCi.of (pad := 5) hl hG (by decide) (Nat.le_of_ble_eq_true rfl) (fun X h => ?_)
  show J l G X _ 10 0 [.ref 33, .ref 6, .int (nI r), .int fr, .int (nI t), .float 0, .float 0, .float 0, .float 0, .float 0] [] mu 0
  have hn := hok.1
  refine rX6_growT_0 h ?_
  refine rX6_growT_2 h (c_plantT hl hG (by omega)) (by decide) (Nat.zero_le _) (fun m1 e1 => ?_)
  refine rX6_growT_5 h ?_
  have fin : ∀ (s : TS) (b : Int32) (m2 : jM) (ls : List Value) (pc : Nat), decode cX6_grow pc = .ok (.ireturn, 1) → Mk s.1 b → TR 34 35 36 s.1 s.2.2.1 s.2.2.2 mu m2 → Same [34, 35, 36] mu m2 → s = growA lk n free t n 0 (gInit r) → J l G X (jRi G X (fun v mu' => Mk (growA lk n free t n 0 (gInit r)).1 v ∧ TR 34 35 36 (growA lk n free t n 0 (gInit r)).1 (growA lk n free t n 0 (gInit r)).2.2.1 (growA lk n free t n 0 (gInit r)).2.2.2 mu mu' ∧ Same [34, 35, 36] mu mu')) 10 pc ls [.int b] m2 0 := by
    intro s b m2 ls pc d q1 q2 q3 q4
    exact J_iret h d rfl (by rw [← q4]; exact ⟨q1, q2, q3⟩)
  revert fin
  generalize jRi G X (fun v mu' => Mk (growA lk n free t n 0 (gInit r)).1 v ∧ TR 34 35 36 (growA lk n free t n 0 (gInit r)).1 (growA lk n free t n 0 (gInit r)).2.2.1 (growA lk n free t n 0 (gInit r)).2.2.2 mu mu' ∧ Same [34, 35, 36] mu mu') = Q0
  intro fin
  have loop : ∀ (f d : Nat) (s : TS) (b o : Int32) (m2 : jM), d + f = n → GI lk n free r d s → Mk s.1 b → Mk s.2.1 o → TR 34 35 36 s.1 s.2.2.1 s.2.2.2 mu m2 → Same [34, 35, 36] mu m2 → growA lk n free t f d s = growA lk n free t n 0 (gInit r) →
      J l G X Q0 10 17 [.ref 33, .ref 6, .int (nI r), .int fr, .int (nI t), .int b, .int o, .int (nI d), .float 0, .float 0] [] m2 0 := by
    intro f
    induction f with
    | zero =>
      intro d s b o m2 hd q1 q2 q3 q4 q5 q6
      have hle : m2 6 0 ≤ nI d := by rw [q5 6 (by decide), hN.1]; exact nI_le (by omega) (by omega)
      exact rX6_growT_17 h (fun _ => fin s b m2 _ 126 dX6_grow_126 q2 q4 q5 q6) (fun z => absurd hle z)
    | succ f ih =>
      intro d s b o m2 hd q1 q2 q3 q4 q5 q6
      have hle : ¬ m2 6 0 ≤ nI d := by rw [q5 6 (by decide), hN.1]; exact nI_ge (by omega) (by omega)
      have N2 : NetC n lk m2 := hN.same q5 (by decide)
      refine rX6_growT_17 h (fun z => absurd z hle) (fun _ => ?_)
      refine rX6_growT_29 h (c_nextTo hl hG hok N2 q2) (by decide) (Nat.zero_le _) (fun v m3 e3 => ?_)
      obtain ⟨e3, rfl⟩ := e3
      have hL : Mk (lyr lk n free s.1) (v &&& fr) := fun i hi => by rw [b_and, e3 i hi, hf i hi]; rfl
      have hLs : ∀ x, lyr lk n free s.1 x = true → x < n := fun x hx => by
        obtain ⟨-, -, y, -, -, q⟩ := lyr_iff.mp hx
        exact (hok.nb q).2.1
      have hBs : ∀ x, s.1 x = true → x < n := fun x hx => (q1.2.1 x hx).1
      have c1 := cnt32 (by omega : n ≤ 32) hL hLs
      have c2 := cnt32 (by omega : n ≤ 32) q2 hBs
      have l1 := cnt_le n (lyr lk n free s.1)
      have l2 := cnt_le n s.1
      rw [show growA lk n free t (f + 1) d s = (if stops lk n free t s then s else growA lk n free t f (d + 1) (gStep lk n free d s)) from rfl] at q6
      have stop : stops lk n free t s = true → ∀ w : Int32, J l G X Q0 10 57 [.ref 33, .ref 6, .int (nI r), .int fr, .int (nI t), .int b, .int o, .int (nI d), .int w, .float 0] [] m3 0 := fun z w => by
        rw [if_pos z] at q6
        exact rX6_growT_57 h (fin s b m3 _ 59 dX6_grow_59 q2 q4 q5 q6)
      refine rX6_growT_32 h (fun q => ?_) (fun q => ?_)
      · refine stop ?_ _
        unfold stops
        have : cnt n (lyr lk n free s.1) = 0 := fb_ct_zero.mpr (fun i hi => by rw [← hL i (by omega), q, b_0])
        simp [this]
      · refine rX6_growT_43 h (c_bitCount hl hG _) (by decide) (Nat.zero_le _) (fun v2 m4 e4 => ?_)
        obtain ⟨rfl, rfl⟩ := e4
        refine rX6_growT_46 h ?_
        refine rX6_growT_50 h (c_bitCount hl hG _) (by decide) (Nat.zero_le _) (fun v2 m5 e5 => ?_)
        obtain ⟨rfl, rfl⟩ := e5
        rw [c1, c2]
        have hne : ¬ cnt n (lyr lk n free s.1) = 0 := fun z => q (b_ext (fun i hi => by
          rw [hL i hi, b_0]
          rcases Bool.eq_false_or_eq_true (lyr lk n free s.1 i) with w | w
          · rw [fb_ct_zero.mp z i (hLs i w)] at w; cases w
          · exact w))
        have cm : nI t * nI (cnt n s.1) ≤ nI (cnt n (lyr lk n free s.1)) ↔ t * cnt n s.1 ≤ cnt n (lyr lk n free s.1) := by
          have : t * cnt n s.1 ≤ 7 * 24 := Nat.mul_le_mul ht (by omega)
          rw [nI_mul]; exact nI_leI (by omega) (by omega)
        refine rX6_growT_53 h (fun q2' => ?_) (fun q2' => ?_)
        · rw [cm] at q2'
          have hns : ¬ stops lk n free t s = true := fun z => by
            unfold stops at z
            simp at z
            omega
          rw [if_neg hns] at q6
          have G2 := q1.step hok
          obtain ⟨s2, hs2⟩ : ∃ s2, s2 = gStep lk n free d s := ⟨_, rfl⟩
          rw [← hs2] at q6 G2
          have e1 : ∀ x, s2.1 x = (s.1 x || lyr lk n free s.1 x) := fun x => by rw [hs2]; rfl
          have e2 : ∀ x, s2.2.1 x = lyr lk n free s.1 x := fun x => by rw [hs2]; rfl
          have old : ∀ x, s.1 x = true → s2.2.2.1 x = s.2.2.1 x ∧ s2.2.2.2 x = s.2.2.2 x := fun x hx => by
            have hnl : ¬ lyr lk n free s.1 x = true := fun z => by have := (lyr_iff.mp z).1; rw [hx] at this; cases this
            rw [hs2]
            exact ⟨if_neg hnl, if_neg hnl⟩
          have nodes : ∀ (w x : Nat) (m6 : jM), x + w = n → TR 34 35 36 (fun i => s.1 i || (lyr lk n free s.1 i && decide (i < x))) s2.2.2.1 s2.2.2.2 mu m6 → Same [34, 35, 36] mu m6 →
              J l G X Q0 10 63 [.ref 33, .ref 6, .int (nI r), .int fr, .int (nI t), .int b, .int o, .int (nI d), .int (v &&& fr), .int (nI x)] [] m6 0 := by
            intro w
            induction w with
            | zero =>
              intro x m6 hx r1 r2
              have hle : m6 6 0 ≤ nI x := by rw [r2 6 (by decide), hN.1]; exact nI_le (by omega) (by omega)
              refine rX6_growT_63 h (fun z => absurd hle z) (fun _ => ?_) (fun z => absurd hle z) (fun z => absurd hle z)
              rw [nI_1]
              refine J_forget 8 (J_forget 9 (ih (d + 1) s2 _ _ m6 (by omega) G2 (fun i hi => ?_) (fun i hi => ?_) ?_ r2 q6))
              · rw [b_or, q2 i hi, hL i hi, e1]
              · rw [hL i hi, e2]
              · have : (fun i => s.1 i || (lyr lk n free s.1 i && decide (i < x))) = s2.1 := by
                  funext i
                  rw [e1]
                  rcases Bool.eq_false_or_eq_true (lyr lk n free s.1 i) with z | z
                  · have := hLs i z
                    simp [z, show i < x by omega]
                  · simp [z]
                rw [this] at r1
                exact r1
            | succ w ihw =>
              intro x m6 hx r1 r2
              have hle : ¬ m6 6 0 ≤ nI x := by rw [r2 6 (by decide), hN.1]; exact nI_ge (by omega) (by omega)
              have N6 : NetC n lk m6 := hN.same r2 (by decide)
              refine rX6_growT_63 h (fun _ _ => vp_in_nI (by omega) (by omega)) (fun z => absurd z hle) (fun _ q => ?_) (fun _ q => ?_)
              · rw [bt_test _ (by omega), hL x (by omega)] at q
                refine rX6_growT_101 h ?_
                rw [nI_1]
                refine ihw (x + 1) m6 (by omega) ?_ r2
                have : (fun i => s.1 i || (lyr lk n free s.1 i && decide (i < x + 1))) = (fun i => s.1 i || (lyr lk n free s.1 i && decide (i < x))) := by
                  funext i
                  by_cases z : i = x
                  · rw [z, q]; simp
                  · rw [show decide (i < x + 1) = decide (i < x) from by congr 1; exact propext ⟨fun _ => by omega, fun _ => by omega⟩]
                rw [this]
                exact r1
              · rw [bt_test1 _ (by omega), hL x (by omega)] at q
                have hxB : s.1 x = false := (lyr_iff.mp q).1
                obtain ⟨y, p1, p2, p3, p4, p5⟩ := G2.2.2.2.2.2.2.2 x (by rw [e1, q]; simp) (fun z => by rw [z] at hxB; rw [q1.1] at hxB; cases hxB)
                have dx : s2.2.2.2 x = d + 1 := by rw [hs2]; exact if_pos q
                have hyB : s.1 y = true := by
                  rw [e1] at p2
                  rcases Bool.eq_false_or_eq_true (s.1 y) with z | z
                  · exact z
                  · rw [z, Bool.false_or] at p2
                    have : s2.2.2.2 y = d + 1 := by rw [hs2]; exact if_pos p2
                    omega
                have hyo : s.2.1 y = true := by rw [q1.2.2.1]; exact ⟨hyB, by rw [← (old y hyB).2]; omega⟩
                have hyn := hBs y hyB
                have hxn := hLs x q
                have hmask : ∀ i, i < 32 → bt (m6 10 x &&& o) i = (decide (i ∈ nbl lk x) && s.2.1 i) := fun i hi => by rw [b_and, nbl_bit hok N6.2.2.2 (by omega) hi, q3 i hi]
                rw [nI_clamp (by omega)]
                refine rX6_growT_95 h (c_lowestNode hl hG (k := y) (by omega) (fun j hj => ?_) ?_) (by decide) (Nat.zero_le _) (fun v7 m7 e7 => ?_)
                · rw [hmask j (by omega)]
                  rcases Bool.eq_false_or_eq_true (s.2.1 j) with z | z
                  · have hj1 := (q1.2.2.1 j).mp z
                    have := p5 j hj (by rw [e1, hj1.1]; rfl) (by rw [(old j hj1.1).2, hj1.2]; omega)
                    have h3 : j ∉ nbl lk x := fun u => this ((nbl_sym hok).mp u)
                    simp [h3]
                  · simp [z]
                · rw [hmask y (by omega), hyo]
                  simp [(nbl_sym hok).mp p3]
                · obtain ⟨rfl, rfl⟩ := e7
                  refine rX6_growT_98 h (c_hangT hl hG (x := x) (y := y) (by omega) (by omega) (fun z => by rw [z, hyB] at hxB; cases hxB)) (by decide) (Nat.zero_le _) (fun m8 e8 => ?_)
                  refine rX6_growT_101 h ?_
                  rw [nI_1]
                  refine ihw (x + 1) m8 (by omega) ?_ (r2.trans' (by rw [e8]; exact (((Same.wr (by decide)).trans' (Same.wr (by decide))).trans' (Same.wr (by decide))).trans' (Same.wr (by decide))))
                  have : (fun i => s.1 i || (lyr lk n free s.1 i && decide (i < x + 1))) = (fun i => (fun i => s.1 i || (lyr lk n free s.1 i && decide (i < x))) i || i == x) := by
                    funext i
                    by_cases z : i = x
                    · subst z; simp [q]
                    · have e : decide (i < x + 1) = decide (i < x) := by congr 1; exact propext ⟨fun _ => by omega, fun _ => by omega⟩
                      rw [e]; simp [z]
                  rw [this, e8]
                  refine r1.hangT (by omega) (by omega) (by simp [hxB]) (by simp [hyB]) p1 p4 (fun i hi hpi => ?_)
                  rcases Bool.eq_false_or_eq_true (s.1 i) with z | z
                  · rw [(old i z).1] at hpi
                    by_cases zr : i = r
                    · rw [zr, q1.2.2.2.2.2.1] at hpi; cases hpi
                    · obtain ⟨y', u1, u2, -⟩ := q1.2.2.2.2.2.2.2 i z zr
                      rw [u1] at hpi
                      have := Option.some.inj hpi
                      rw [this, hxB] at u2; cases u2
                  · rw [z, Bool.false_or, Bool.and_eq_true] at hi
                    obtain ⟨y', u1, u2, u3, u4, -⟩ := G2.2.2.2.2.2.2.2 i (by rw [e1, hi.1]; simp) (fun zz => by rw [zz, q1.1] at z; cases z)
                    rw [u1] at hpi
                    have := Option.some.inj hpi
                    rw [this, dx] at u4
                    have : s2.2.2.2 i = d + 1 := by rw [hs2]; exact if_pos hi.1
                    omega
          refine nodes n 0 m5 (by omega) (fun x hx => ?_) q5
          have hB0 : (fun i => s.1 i || (lyr lk n free s.1 i && decide (i < 0))) = s.1 := by funext i; simp
          rw [hB0]
          obtain ⟨g1, g2⟩ := q4 x hx
          refine ⟨fun hB => ?_, g2⟩
          obtain ⟨a1, a2, a3⟩ := g1 hB
          rw [(old x hB).1, (old x hB).2]
          refine ⟨a1, a2, fun i hi => ?_⟩
          rw [a3 i hi]
          rcases Bool.eq_false_or_eq_true (s.1 i) with z | z
          · rw [(old i z).1]
          · simp [z]
        · rw [cm] at q2'
          refine stop ?_ _
          unfold stops
          simp
          omega
  have Mr : Mk (gInit r).1 (1 <<< (nI r &&& 31)) := fun i hi => by
    rw [bt_one (by omega) hi]
    show _ = (i == r)
    by_cases z : i = r
    · simp [z]
    · simp [z]
  refine loop n 0 (gInit r) _ _ m1 (by omega) (GI.init free hr) Mr Mr (fun x hx => ?_) (by rw [e1]; exact ((Same.wr (by decide)).trans' (Same.wr (by decide))).trans' (Same.wr (by decide))) rfl
  rw [e1]
  have eP : (wr (wr (wr mu 34 r (-1)) 35 r 0) 36 r 0) 34 x = if x = r then -1 else mu 34 x := rfl
  have eD : (wr (wr (wr mu 34 r (-1)) 35 r 0) 36 r 0) 35 x = if x = r then 0 else mu 35 x := rfl
  have eK : (wr (wr (wr mu 34 r (-1)) 35 r 0) 36 r 0) 36 x = if x = r then 0 else mu 36 x := rfl
  rw [eP, eD, eK]
  show ((x == r) = true → _) ∧ ((x == r) = false → _)
  by_cases z : x = r
  · rw [if_pos z, if_pos z, if_pos z]
    refine ⟨fun _ => ⟨rfl, rfl, fun i hi => ?_⟩, fun w => by simp [z] at w⟩
    rw [b_0]
    show false = ((i == r) && (none == some x))
    simp
  · rw [if_neg z, if_neg z, if_neg z]
    exact ⟨fun w => by simp [z] at w, fun _ => ⟨rfl, rfl, rfl⟩⟩
theorem c_growC (hl : l.stackTraces = false) (hG : jGok G) {n : Nat} {lk : Lk} (hok : NetOk n lk) (hN : NetC n lk mu) {free : NS} {fr : Int32} (hf : Mk free fr) {r t : Nat} (hr : r < n) (ht : t ≤ 7) :
    jCi l G yX6_grow cX6_grow 10 3 (some .int) [.ref 38, .ref 6, .int (nI r), .int fr, .int (nI t)] mu (fun v mu' => Mk (growA lk n free t n 0 (gInit r)).1 v ∧ TR 39 40 41 (growA lk n free t n 0 (gInit r)).1 (growA lk n free t n 0 (gInit r)).2.2.1 (growA lk n free t n 0 (gInit r)).2.2.2 mu mu' ∧ Same [39, 40, 41] mu mu') := by
  refine jCi.of (pad := 5) hl hG (by decide) (Nat.le_of_ble_eq_true rfl) (fun X h => ?_)
  show J l G X _ 10 0 [.ref 38, .ref 6, .int (nI r), .int fr, .int (nI t), .float 0, .float 0, .float 0, .float 0, .float 0] [] mu 0
  have hn := hok.1
  refine rX6_growC_0 h ?_
  refine rX6_growC_2 h (c_plantC hl hG (by omega)) (by decide) (Nat.zero_le _) (fun m1 e1 => ?_)
  refine rX6_growC_5 h ?_
  have fin : ∀ (s : TS) (b : Int32) (m2 : jM) (ls : List Value) (pc : Nat), decode cX6_grow pc = .ok (.ireturn, 1) → Mk s.1 b → TR 39 40 41 s.1 s.2.2.1 s.2.2.2 mu m2 → Same [39, 40, 41] mu m2 → s = growA lk n free t n 0 (gInit r) → J l G X (jRi G X (fun v mu' => Mk (growA lk n free t n 0 (gInit r)).1 v ∧ TR 39 40 41 (growA lk n free t n 0 (gInit r)).1 (growA lk n free t n 0 (gInit r)).2.2.1 (growA lk n free t n 0 (gInit r)).2.2.2 mu mu' ∧ Same [39, 40, 41] mu mu')) 10 pc ls [.int b] m2 0 := by
    intro s b m2 ls pc d q1 q2 q3 q4
    exact J_iret h d rfl (by rw [← q4]; exact ⟨q1, q2, q3⟩)
  revert fin
  generalize jRi G X (fun v mu' => Mk (growA lk n free t n 0 (gInit r)).1 v ∧ TR 39 40 41 (growA lk n free t n 0 (gInit r)).1 (growA lk n free t n 0 (gInit r)).2.2.1 (growA lk n free t n 0 (gInit r)).2.2.2 mu mu' ∧ Same [39, 40, 41] mu mu') = Q0
  intro fin
  have loop : ∀ (f d : Nat) (s : TS) (b o : Int32) (m2 : jM), d + f = n → GI lk n free r d s → Mk s.1 b → Mk s.2.1 o → TR 39 40 41 s.1 s.2.2.1 s.2.2.2 mu m2 → Same [39, 40, 41] mu m2 → growA lk n free t f d s = growA lk n free t n 0 (gInit r) →
      J l G X Q0 10 17 [.ref 38, .ref 6, .int (nI r), .int fr, .int (nI t), .int b, .int o, .int (nI d), .float 0, .float 0] [] m2 0 := by
    intro f
    induction f with
    | zero =>
      intro d s b o m2 hd q1 q2 q3 q4 q5 q6
      have hle : m2 6 0 ≤ nI d := by rw [q5 6 (by decide), hN.1]; exact nI_le (by omega) (by omega)
      exact rX6_growC_17 h (fun _ => fin s b m2 _ 126 dX6_grow_126 q2 q4 q5 q6) (fun z => absurd hle z)
    | succ f ih =>
      intro d s b o m2 hd q1 q2 q3 q4 q5 q6
      have hle : ¬ m2 6 0 ≤ nI d := by rw [q5 6 (by decide), hN.1]; exact nI_ge (by omega) (by omega)
      have N2 : NetC n lk m2 := hN.same q5 (by decide)
      refine rX6_growC_17 h (fun z => absurd z hle) (fun _ => ?_)
      refine rX6_growC_29 h (c_nextTo hl hG hok N2 q2) (by decide) (Nat.zero_le _) (fun v m3 e3 => ?_)
      obtain ⟨e3, rfl⟩ := e3
      have hL : Mk (lyr lk n free s.1) (v &&& fr) := fun i hi => by rw [b_and, e3 i hi, hf i hi]; rfl
      have hLs : ∀ x, lyr lk n free s.1 x = true → x < n := fun x hx => by
        obtain ⟨-, -, y, -, -, q⟩ := lyr_iff.mp hx
        exact (hok.nb q).2.1
      have hBs : ∀ x, s.1 x = true → x < n := fun x hx => (q1.2.1 x hx).1
      have c1 := cnt32 (by omega : n ≤ 32) hL hLs
      have c2 := cnt32 (by omega : n ≤ 32) q2 hBs
      have l1 := cnt_le n (lyr lk n free s.1)
      have l2 := cnt_le n s.1
      rw [show growA lk n free t (f + 1) d s = (if stops lk n free t s then s else growA lk n free t f (d + 1) (gStep lk n free d s)) from rfl] at q6
      have stop : stops lk n free t s = true → ∀ w : Int32, J l G X Q0 10 57 [.ref 38, .ref 6, .int (nI r), .int fr, .int (nI t), .int b, .int o, .int (nI d), .int w, .float 0] [] m3 0 := fun z w => by
        rw [if_pos z] at q6
        exact rX6_growC_57 h (fin s b m3 _ 59 dX6_grow_59 q2 q4 q5 q6)
      refine rX6_growC_32 h (fun q => ?_) (fun q => ?_)
      · refine stop ?_ _
        unfold stops
        have : cnt n (lyr lk n free s.1) = 0 := fb_ct_zero.mpr (fun i hi => by rw [← hL i (by omega), q, b_0])
        simp [this]
      · refine rX6_growC_43 h (c_bitCount hl hG _) (by decide) (Nat.zero_le _) (fun v2 m4 e4 => ?_)
        obtain ⟨rfl, rfl⟩ := e4
        refine rX6_growC_46 h ?_
        refine rX6_growC_50 h (c_bitCount hl hG _) (by decide) (Nat.zero_le _) (fun v2 m5 e5 => ?_)
        obtain ⟨rfl, rfl⟩ := e5
        rw [c1, c2]
        have hne : ¬ cnt n (lyr lk n free s.1) = 0 := fun z => q (b_ext (fun i hi => by
          rw [hL i hi, b_0]
          rcases Bool.eq_false_or_eq_true (lyr lk n free s.1 i) with w | w
          · rw [fb_ct_zero.mp z i (hLs i w)] at w; cases w
          · exact w))
        have cm : nI t * nI (cnt n s.1) ≤ nI (cnt n (lyr lk n free s.1)) ↔ t * cnt n s.1 ≤ cnt n (lyr lk n free s.1) := by
          have : t * cnt n s.1 ≤ 7 * 24 := Nat.mul_le_mul ht (by omega)
          rw [nI_mul]; exact nI_leI (by omega) (by omega)
        refine rX6_growC_53 h (fun q2' => ?_) (fun q2' => ?_)
        · rw [cm] at q2'
          have hns : ¬ stops lk n free t s = true := fun z => by
            unfold stops at z
            simp at z
            omega
          rw [if_neg hns] at q6
          have G2 := q1.step hok
          obtain ⟨s2, hs2⟩ : ∃ s2, s2 = gStep lk n free d s := ⟨_, rfl⟩
          rw [← hs2] at q6 G2
          have e1 : ∀ x, s2.1 x = (s.1 x || lyr lk n free s.1 x) := fun x => by rw [hs2]; rfl
          have e2 : ∀ x, s2.2.1 x = lyr lk n free s.1 x := fun x => by rw [hs2]; rfl
          have old : ∀ x, s.1 x = true → s2.2.2.1 x = s.2.2.1 x ∧ s2.2.2.2 x = s.2.2.2 x := fun x hx => by
            have hnl : ¬ lyr lk n free s.1 x = true := fun z => by have := (lyr_iff.mp z).1; rw [hx] at this; cases this
            rw [hs2]
            exact ⟨if_neg hnl, if_neg hnl⟩
          have nodes : ∀ (w x : Nat) (m6 : jM), x + w = n → TR 39 40 41 (fun i => s.1 i || (lyr lk n free s.1 i && decide (i < x))) s2.2.2.1 s2.2.2.2 mu m6 → Same [39, 40, 41] mu m6 →
              J l G X Q0 10 63 [.ref 38, .ref 6, .int (nI r), .int fr, .int (nI t), .int b, .int o, .int (nI d), .int (v &&& fr), .int (nI x)] [] m6 0 := by
            intro w
            induction w with
            | zero =>
              intro x m6 hx r1 r2
              have hle : m6 6 0 ≤ nI x := by rw [r2 6 (by decide), hN.1]; exact nI_le (by omega) (by omega)
              refine rX6_growC_63 h (fun z => absurd hle z) (fun _ => ?_) (fun z => absurd hle z) (fun z => absurd hle z)
              rw [nI_1]
              refine J_forget 8 (J_forget 9 (ih (d + 1) s2 _ _ m6 (by omega) G2 (fun i hi => ?_) (fun i hi => ?_) ?_ r2 q6))
              · rw [b_or, q2 i hi, hL i hi, e1]
              · rw [hL i hi, e2]
              · have : (fun i => s.1 i || (lyr lk n free s.1 i && decide (i < x))) = s2.1 := by
                  funext i
                  rw [e1]
                  rcases Bool.eq_false_or_eq_true (lyr lk n free s.1 i) with z | z
                  · have := hLs i z
                    simp [z, show i < x by omega]
                  · simp [z]
                rw [this] at r1
                exact r1
            | succ w ihw =>
              intro x m6 hx r1 r2
              have hle : ¬ m6 6 0 ≤ nI x := by rw [r2 6 (by decide), hN.1]; exact nI_ge (by omega) (by omega)
              have N6 : NetC n lk m6 := hN.same r2 (by decide)
              refine rX6_growC_63 h (fun _ _ => vp_in_nI (by omega) (by omega)) (fun z => absurd z hle) (fun _ q => ?_) (fun _ q => ?_)
              · rw [bt_test _ (by omega), hL x (by omega)] at q
                refine rX6_growC_101 h ?_
                rw [nI_1]
                refine ihw (x + 1) m6 (by omega) ?_ r2
                have : (fun i => s.1 i || (lyr lk n free s.1 i && decide (i < x + 1))) = (fun i => s.1 i || (lyr lk n free s.1 i && decide (i < x))) := by
                  funext i
                  by_cases z : i = x
                  · rw [z, q]; simp
                  · rw [show decide (i < x + 1) = decide (i < x) from by congr 1; exact propext ⟨fun _ => by omega, fun _ => by omega⟩]
                rw [this]
                exact r1
              · rw [bt_test1 _ (by omega), hL x (by omega)] at q
                have hxB : s.1 x = false := (lyr_iff.mp q).1
                obtain ⟨y, p1, p2, p3, p4, p5⟩ := G2.2.2.2.2.2.2.2 x (by rw [e1, q]; simp) (fun z => by rw [z] at hxB; rw [q1.1] at hxB; cases hxB)
                have dx : s2.2.2.2 x = d + 1 := by rw [hs2]; exact if_pos q
                have hyB : s.1 y = true := by
                  rw [e1] at p2
                  rcases Bool.eq_false_or_eq_true (s.1 y) with z | z
                  · exact z
                  · rw [z, Bool.false_or] at p2
                    have : s2.2.2.2 y = d + 1 := by rw [hs2]; exact if_pos p2
                    omega
                have hyo : s.2.1 y = true := by rw [q1.2.2.1]; exact ⟨hyB, by rw [← (old y hyB).2]; omega⟩
                have hyn := hBs y hyB
                have hxn := hLs x q
                have hmask : ∀ i, i < 32 → bt (m6 10 x &&& o) i = (decide (i ∈ nbl lk x) && s.2.1 i) := fun i hi => by rw [b_and, nbl_bit hok N6.2.2.2 (by omega) hi, q3 i hi]
                rw [nI_clamp (by omega)]
                refine rX6_growC_95 h (c_lowestNode hl hG (k := y) (by omega) (fun j hj => ?_) ?_) (by decide) (Nat.zero_le _) (fun v7 m7 e7 => ?_)
                · rw [hmask j (by omega)]
                  rcases Bool.eq_false_or_eq_true (s.2.1 j) with z | z
                  · have hj1 := (q1.2.2.1 j).mp z
                    have := p5 j hj (by rw [e1, hj1.1]; rfl) (by rw [(old j hj1.1).2, hj1.2]; omega)
                    have h3 : j ∉ nbl lk x := fun u => this ((nbl_sym hok).mp u)
                    simp [h3]
                  · simp [z]
                · rw [hmask y (by omega), hyo]
                  simp [(nbl_sym hok).mp p3]
                · obtain ⟨rfl, rfl⟩ := e7
                  refine rX6_growC_98 h (c_hangC hl hG (x := x) (y := y) (by omega) (by omega) (fun z => by rw [z, hyB] at hxB; cases hxB)) (by decide) (Nat.zero_le _) (fun m8 e8 => ?_)
                  refine rX6_growC_101 h ?_
                  rw [nI_1]
                  refine ihw (x + 1) m8 (by omega) ?_ (r2.trans' (by rw [e8]; exact (((Same.wr (by decide)).trans' (Same.wr (by decide))).trans' (Same.wr (by decide))).trans' (Same.wr (by decide))))
                  have : (fun i => s.1 i || (lyr lk n free s.1 i && decide (i < x + 1))) = (fun i => (fun i => s.1 i || (lyr lk n free s.1 i && decide (i < x))) i || i == x) := by
                    funext i
                    by_cases z : i = x
                    · subst z; simp [q]
                    · have e : decide (i < x + 1) = decide (i < x) := by congr 1; exact propext ⟨fun _ => by omega, fun _ => by omega⟩
                      rw [e]; simp [z]
                  rw [this, e8]
                  refine r1.hangC (by omega) (by omega) (by simp [hxB]) (by simp [hyB]) p1 p4 (fun i hi hpi => ?_)
                  rcases Bool.eq_false_or_eq_true (s.1 i) with z | z
                  · rw [(old i z).1] at hpi
                    by_cases zr : i = r
                    · rw [zr, q1.2.2.2.2.2.1] at hpi; cases hpi
                    · obtain ⟨y', u1, u2, -⟩ := q1.2.2.2.2.2.2.2 i z zr
                      rw [u1] at hpi
                      have := Option.some.inj hpi
                      rw [this, hxB] at u2; cases u2
                  · rw [z, Bool.false_or, Bool.and_eq_true] at hi
                    obtain ⟨y', u1, u2, u3, u4, -⟩ := G2.2.2.2.2.2.2.2 i (by rw [e1, hi.1]; simp) (fun zz => by rw [zz, q1.1] at z; cases z)
                    rw [u1] at hpi
                    have := Option.some.inj hpi
                    rw [this, dx] at u4
                    have : s2.2.2.2 i = d + 1 := by rw [hs2]; exact if_pos hi.1
                    omega
          refine nodes n 0 m5 (by omega) (fun x hx => ?_) q5
          have hB0 : (fun i => s.1 i || (lyr lk n free s.1 i && decide (i < 0))) = s.1 := by funext i; simp
          rw [hB0]
          obtain ⟨g1, g2⟩ := q4 x hx
          refine ⟨fun hB => ?_, g2⟩
          obtain ⟨a1, a2, a3⟩ := g1 hB
          rw [(old x hB).1, (old x hB).2]
          refine ⟨a1, a2, fun i hi => ?_⟩
          rw [a3 i hi]
          rcases Bool.eq_false_or_eq_true (s.1 i) with z | z
          · rw [(old i z).1]
          · simp [z]
        · rw [cm] at q2'
          refine stop ?_ _
          unfold stops
          simp
          omega
  have Mr : Mk (gInit r).1 (1 <<< (nI r &&& 31)) := fun i hi => by
    rw [bt_one (by omega) hi]
    show _ = (i == r)
    by_cases z : i = r
    · simp [z]
    · simp [z]
  refine loop n 0 (gInit r) _ _ m1 (by omega) (GI.init free hr) Mr Mr (fun x hx => ?_) (by rw [e1]; exact ((Same.wr (by decide)).trans' (Same.wr (by decide))).trans' (Same.wr (by decide))) rfl
  rw [e1]
  have eP : (wr (wr (wr mu 39 r (-1)) 40 r 0) 41 r 0) 39 x = if x = r then -1 else mu 39 x := rfl
  have eD : (wr (wr (wr mu 39 r (-1)) 40 r 0) 41 r 0) 40 x = if x = r then 0 else mu 40 x := rfl
  have eK : (wr (wr (wr mu 39 r (-1)) 40 r 0) 41 r 0) 41 x = if x = r then 0 else mu 41 x := rfl
  rw [eP, eD, eK]
  show ((x == r) = true → _) ∧ ((x == r) = false → _)
  by_cases z : x = r
  · rw [if_pos z, if_pos z, if_pos z]
    refine ⟨fun _ => ⟨rfl, rfl, fun i hi => ?_⟩, fun w => by simp [z] at w⟩
    rw [b_0]
    show false = ((i == r) && (none == some x))
    simp
  · rw [if_neg z, if_neg z, if_neg z]
    exact ⟨fun w => by simp [z] at w, fun _ => ⟨rfl, rfl, rfl⟩⟩
end C49
