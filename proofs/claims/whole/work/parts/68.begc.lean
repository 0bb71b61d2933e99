/-! ===== the class: a run begins ===== -/
/-- what prepare makes besides parents, children and chosen links -/
def PcC (n : Nat) (lk : Lk) (p : Nat) (mu : jM) : Prop :=
  (∀ x, x < n → mu 35 x = nI (depZ n lk p 1 x) ∧ mu 40 x = nI (depZ n lk p 2 x) ∧ mu 42 x = nI (clV (clAll lk n p) x)) ∧ mu 37 0 = nI (clAll lk n p).1 ∧ CH lk (clV (clAll lk n p)) lk.length mu
theorem PcC.congr {n : Nat} {lk : Lk} {p : Nat} {mu mu' : jM} (h : PcC n lk p mu) (hc : ∀ c, c = 35 ∨ c = 37 ∨ c = 40 ∨ c = 42 ∨ c = 43 ∨ c = 44 → mu' c = mu c) : PcC n lk p mu' := by
  refine ⟨fun x hx => ?_, ?_, ?_, fun c d k1 k2 => ?_, fun a b k1 k2 => ?_⟩
  · rw [hc 35 (by omega), hc 40 (by omega), hc 42 (by omega)]; exact h.1 x hx
  · rw [hc 37 (by omega)]; exact h.2.1
  · rw [hc 37 (by omega)]; exact h.2.2.1
  · rw [hc 44 (by omega)]; exact h.2.2.2.1 c d k1 k2
  · rw [hc 43 (by omega)]; exact h.2.2.2.2 a b k1 k2
theorem hd_cell0 {K : Nat} (h7 : K ≤ 7) : [48, 49, 50, 51, 52, 53, 54, 55][(nI K).toNatClampNeg]? = some (48 + K) ∧ jShp[48 + K]? = some (.inr (0, 48, fun _ => none)) ∧ vp_in (nI K) 8 := by
  have c : K = 0 ∨ K = 1 ∨ K = 2 ∨ K = 3 ∨ K = 4 ∨ K = 5 ∨ K = 6 ∨ K = 7 := by omega
  refine ⟨?_, ?_, vp_in_nI (by omega) (by omega)⟩
  · rw [nI_clamp (by omega)]; rcases c with rfl | rfl | rfl | rfl | rfl | rfl | rfl | rfl <;> rfl
  · rcases c with rfl | rfl | rfl | rfl | rfl | rfl | rfl | rfl <;> rfl
def WB : List Nat := [19, 21, 22, 25, 32, 34, 35, 36, 37, 39, 40, 41, 42, 43, 44, 45, 46, 48, 49, 50, 51, 52, 53, 54, 55, 56, 57]
theorem mk_ok {n : Nat} {lk : Lk} {pr : List Wd} (hok : NetOk n lk) (hc : conn lk n) (hv : Valid pr) (hl : pr.length ≤ 64) (p : Nat) : NT.ok (mkZ n lk pr p) := ⟨zok_mk0 hok hc p, hv, hl⟩
/-- the class's trees are the run's -/
theorem st_mk {n : Nat} {lk : Lk} {pr : List Wd} {p : Nat} {mu m0 : jM} (hok : NetOk n lk) (hc : conn lk n) (hN : NetC n lk mu) (hP : ProgC pr mu) (hT : TR 34 35 36 (trA n lk).1 (trA n lk).2.2.1 (trA n lk).2.2.2 m0 mu) (hC : CR (clAll lk n p) mu) (hH : CH lk (clV (clAll lk n p)) lk.length mu) : StC (mkZ n lk pr p) mu ∧ PcC n lk p mu := by
  have hn24 := hok.1
  obtain ⟨d, hG⟩ := growA_GI hok (free := allN n) (root := 0) (t := 0) n 0 _ (GI.init _ hc.1)
  have hall : ∀ x, x < n → (trA n lk).1 x = true := fun x hx => tree_all hok hc hx
  have hB : ∀ x, (trA n lk).1 x = true → x < n := fun x hx => (hG.2.1 x hx).1
  have hCI := clAll_CI hok p
  refine ⟨⟨hN, hP, fun x hx => ?_⟩, fun x hx => ?_, hC.1, hH⟩
  · have hx : x < n := hx
    obtain ⟨t1, t2, t3⟩ := (hT x (by omega)).1 (hall x hx)
    obtain ⟨c1, c2, c3, c4⟩ := hC.2 x _ (by omega) (clV_some hCI hx).1
    refine ⟨?_, ?_, fun i hi => ⟨?_, ?_, hH.2.2 x i (by omega) hi⟩⟩
    · show mu 34 x = parI (parZ n lk p 1 x)
      rw [t1]; unfold parZ; rw [if_pos hx, if_pos rfl]
    · show mu 39 x = parI (parZ n lk p 2 x)
      rw [c2]; unfold parZ; rw [if_pos hx, if_neg (by decide), if_pos rfl]
    · rw [t3 i hi]
      show _ = (parZ n lk p 1 i == some x)
      unfold parZ
      by_cases e : i < n
      · rw [if_pos e, if_pos rfl, hall i e, Bool.true_and]
      · rw [if_neg e]
        cases hb : (trA n lk).1 i with
        | false => rfl
        | true => exact absurd (hB i hb) e
    · rw [c4 i hi]
      show _ = (parZ n lk p 2 i == some x)
      unfold parZ
      by_cases e : i < n
      · rw [if_pos e, if_neg (by decide), if_pos rfl, (clV_some hCI e).1]; rfl
      · rw [if_neg e]
        cases hb : (clAll lk n p).2.1 i with
        | none => rfl
        | some c => exact absurd (hCI.2.1 i c hb).1 e
  · have hx : x < n := hx
    obtain ⟨t1, t2, t3⟩ := (hT x (by omega)).1 (hall x hx)
    obtain ⟨c1, c2, c3, c4⟩ := hC.2 x _ (by omega) (clV_some hCI hx).1
    exact ⟨t2, c3, c1⟩
section C68
variable {l : Launch} {G : jG} {mu : jM}
theorem c_empty3 (hl : l.stackTraces = false) (hG : jGok G) : jCv l G yX3_empty cX3_empty 1 2 [.ref 25] mu (fun mu' => LetC [] (fun _ => 0) mu' ∧ Same [25, 32] mu mu') := by
  refine jCv.of (pad := 0) hl hG (by decide) (Nat.le_of_ble_eq_true rfl) (fun X h => ?_)
  show J l G X _ 1 0 [.ref 25] [] mu 0
  refine rX3_empty_0 h ?_
  refine rX3_empty_10 h (c_fill hl hG (a := 32) (N := 3) 0 rfl (by omega)) (by decide) (Nat.zero_le _) (fun m1 e1 => ?_)
  subst e1
  refine J_vret h dX3_empty_13 ⟨⟨rfl, fun j x hx => by simp at hx, fun c hc => ?_⟩, (Same.wr (by decide)).trans' (Same.put (by decide))⟩
  rw [put_at]
  unfold fillTo
  rw [if_pos hc]
  rfl
theorem c_begin (hl : l.stackTraces = false) (hG : jGok G) {n : Nat} {lk : Lk} {pr : List Wd} (hok : NetOk n lk) (hc : conn lk n) (hN : NetC n lk mu) (hP : ProgC pr mu) {v p : Nat} (hp1 : 2 ≤ p) (hp2 : p ≤ 8) :
    jCv l G yX5_begin cX5_begin 5 5 [.ref 19, .ref 13, .int (nI v), .int (nI p)] mu (fun mu' => StC (mkZ n lk pr p) mu' ∧ PcC n lk p mu' ∧ RepC (rs0 (mu 13) v) mu' ∧ Same WB mu mu') := by
  refine jCv.of (pad := 1) hl hG (by decide) (Nat.le_of_ble_eq_true rfl) (fun X h => ?_)
  show J l G X _ 5 0 [.ref 19, .ref 13, .int (nI v), .int (nI p), .float 0] [] mu 0
  have hn24 := hok.1
  refine rX5_begin_0 h ?_
  refine rX5_begin_5 h (c_beginR hl hG) (by decide) (Nat.zero_le _) (fun m1 e1 => ?_)
  obtain ⟨r1, r2, s1⟩ := e1
  refine rX5_begin_8 h ?_
  refine rX5_begin_12 h (c_empty3 hl hG) (by decide) (Nat.zero_le _) (fun m2 e2 => ?_)
  obtain ⟨L2, s2⟩ := e2
  refine rX5_begin_15 h ?_
  have S2 : Same [21, 22, 25, 32] mu m2 := (s1.wide (by decide)).trans' (s2.wide (by decide))
  have N2 := hN.same S2 (by decide)
  refine rX5_begin_28 h (c_allNodes hl hG hn24 N2.1) (by decide) (Nat.zero_le _) (fun fr m3 e3 => ?_)
  obtain ⟨hfr, rfl⟩ := e3
  refine rX5_begin_31 h ?_
  refine rX5_begin_32 h (c_growT hl hG hok N2 hfr (r := 0) (t := 0) hc.1 (by omega)) (by decide) (Nat.zero_le _) (fun b m4 e4 => ?_)
  obtain ⟨-, T4, s4⟩ := e4
  refine rX5_begin_35 h ?_
  have S4 : Same [21, 22, 25, 32, 34, 35, 36] mu m4 := (S2.wide (by decide)).trans' (s4.wide (by decide))
  refine rX5_begin_45 h (c_make hl hG hok (hN.same S4 (by decide)) hp1 hp2) (by decide) (Nat.zero_le _) (fun m5 e5 => ?_)
  obtain ⟨C5, H5, s5⟩ := e5
  refine rX5_begin_48 h ?_
  refine rX5_begin_53 h (c_fill hl hG (a := 45) (N := 24) 0 rfl (by omega)) (by decide) (Nat.zero_le _) (fun m6 e6 => ?_)
  refine rX5_begin_56 h ?_
  refine rX5_begin_61 h (c_fill hl hG (a := 46) (N := 24) 0 rfl (by omega)) (by decide) (Nat.zero_le _) (fun m7 e7 => ?_)
  refine rX5_begin_64 h ?_
  have S7 : Same [21, 22, 25, 32, 34, 35, 36, 37, 39, 40, 41, 42, 43, 44, 45, 46] mu m7 := by
    rw [e7, e6]
    exact (((S4.wide (by decide)).trans' (s5.wide (by decide))).trans' (Same.put (by decide))).trans' (Same.put (by decide))
  have c7 : ∀ c, c ≠ 45 → c ≠ 46 → m7 c = m5 c := fun c q1 q2 => by rw [e7, put_ne _ _ q2, e6, put_ne _ _ q1]
  have loop : ∀ (w K : Nat) (m8 : jM), K + w = 8 → (∀ K', K' < K → ∀ j, j < 48 → m8 (48 + K') j = 0) → Same [48, 49, 50, 51, 52, 53, 54, 55] m7 m8 →
      J l G X (jRv G X (fun mu' => StC (mkZ n lk pr p) mu' ∧ PcC n lk p mu' ∧ RepC (rs0 (mu 13) v) mu' ∧ Same WB mu mu')) 5 67 [.ref 19, .ref 13, .int (nI v), .int (nI p), .int (nI K)] [] m8 0 := by
    intro w
    induction w with
    | zero =>
      intro K m8 hK q1 q2
      have hge : 8 ≤ nI K := nI_le (a := 8) (by omega) (by omega)
      refine rX5_begin_67 (r3 := 50) h (fun z => absurd hge z) (fun z => absurd hge z) rfl (fun _ => ?_) (fun z => absurd hge z)
      obtain ⟨m9, hm9⟩ : ∃ m : jM, m = wr (wr (wr (wr (wr (wr (wr (wr m8 19 8 0) 19 9 0) 19 10 0) 19 11 0) 19 12 0) 56 (0 : Int32).toNatClampNeg 0) 57 (0 : Int32).toNatClampNeg (nI v)) 19 15 1 := ⟨_, rfl⟩
      rw [← hm9]
      have c9 : ∀ c, c ≠ 19 → c ≠ 56 → c ≠ 57 → m9 c = m8 c := fun c k1 k2 k3 => by
        rw [hm9, rd_ne _ _ _ k1, rd_ne _ _ _ k3, rd_ne _ _ _ k2, rd_ne _ _ _ k1, rd_ne _ _ _ k1, rd_ne _ _ _ k1, rd_ne _ _ _ k1, rd_ne _ _ _ k1]
      have cc : ∀ c, c ≠ 19 → c < 45 → m9 c = m5 c := fun c k1 k2 => by
        rw [c9 c k1 (by omega) (by omega), q2 c (by simp only [List.mem_cons, List.not_mem_nil, or_false]; omega), c7 c (by omega) (by omega)]
      have c5 : ∀ c, c < 37 → m5 c = m4 c := fun c k => s5 c (by simp only [List.mem_cons, List.not_mem_nil, or_false]; omega)
      have c4 : ∀ c, c < 34 → m4 c = m3 c := fun c k => s4 c (by simp only [List.mem_cons, List.not_mem_nil, or_false]; omega)
      have S9 : Same WB mu m9 := by
        rw [hm9]
        refine ((((((((((S7.wide (by decide)).trans' (q2.wide (by decide))).trans' (Same.wr (by decide))).trans' (Same.wr (by decide))).trans' (Same.wr (by decide))).trans' (Same.wr (by decide))).trans' (Same.wr (by decide))).trans' (Same.wr (by decide))).trans' (Same.wr (by decide))).trans' (Same.wr (by decide)))
      have T9 : TR 34 35 36 (trA n lk).1 (trA n lk).2.2.1 (trA n lk).2.2.2 m3 m9 := fun x hx => by
        rw [cc 34 (by decide) (by decide), cc 35 (by decide) (by decide), cc 36 (by decide) (by decide), c5 34 (by decide), c5 35 (by decide), c5 36 (by decide)]
        exact T4 x hx
      have C9 : CR (clAll lk n p) m9 := ⟨by rw [cc 37 (by decide) (by decide)]; exact C5.1, fun x c hx hs => by
        rw [cc 42 (by decide) (by decide), cc 39 (by decide) (by decide), cc 40 (by decide) (by decide), cc 41 (by decide) (by decide)]
        exact C5.2 x c hx hs⟩
      have H9 : CH lk (clV (clAll lk n p)) lk.length m9 := ⟨by rw [cc 37 (by decide) (by decide)]; exact H5.1, fun c d k1 k2 => by rw [cc 44 (by decide) (by decide)]; exact H5.2.1 c d k1 k2, fun a b k1 k2 => by rw [cc 43 (by decide) (by decide)]; exact H5.2.2 a b k1 k2⟩
      obtain ⟨g1, g2⟩ := st_mk (pr := pr) hok hc (hN.same S9 (by decide)) (hP.same S9 (by decide)) T9 C9 H9
      refine J_vret h dX5_begin_135 ⟨g1, g2, ⟨fun a ha => ?_, ⟨fun j hj => ?_, ?_⟩, fun i hi => ?_, fun K' q b i k1 k2 k3 k4 k5 => ?_, ?_, ⟨?_, ?_⟩, ?_, fun j e he => ?_⟩, S9⟩
      · rw [c9 45 (by decide) (by decide) (by decide), c9 46 (by decide) (by decide) (by decide), q2 45 (by decide), q2 46 (by decide), e7, put_at, put_ne _ _ (by decide), e6, put_at]
        unfold fillTo
        rw [if_pos ha, if_pos ha]
        exact ⟨rfl, rfl⟩
      · rw [cc 21 (by decide) (by decide), c5 21 (by decide), c4 21 (by decide), s2 21 (by decide)]
        exact r1 j hj
      · intro q b p' a1 a2 a3
        rw [cc 22 (by decide) (by decide), c5 22 (by decide), c4 22 (by decide), s2 22 (by decide), r2 _ (by omega), b_0]
        exact ⟨rfl, fun u hu => by cases hu⟩
      · rw [hm9]
        exact ⟨b_0 i, b_0 i, b_0 i⟩
      · rw [c9 (48 + K') (by omega) (by omega) (by omega), q1 K' (by omega) _ (by omega), b_0]
        rfl
      · exact L2.congr (by rw [cc 25 (by decide) (by decide), c5 25 (by decide), c4 25 (by decide)]) (fun c k1 k2 => by rw [cc c (by omega) (by omega), c5 c (by omega), c4 c (by omega)])
      · rw [hm9]; rfl
      · rw [hm9]; rfl
      · rw [hm9]; rfl
      · have hj : j = 0 := by
          have := (List.getElem?_eq_some_iff.mp he).1
          have : j < 1 := this
          omega
        subst hj
        cases he
        rw [hm9]
        exact ⟨rfl, rfl⟩
    | succ w ih =>
      intro K m8 hK q1 q2
      have hge : ¬ 8 ≤ nI K := nI_ge (b := 8) (by omega) (by omega)
      obtain ⟨u1, u2, u3⟩ := hd_cell0 (K := K) (by omega)
      refine rX5_begin_67 (r3 := 48 + K) h (fun _ => u3) (fun _ => u1) u2 (fun z => absurd z hge) (fun _ => ?_)
      refine rX5_begin_82 h u2 (c_fill hl hG (a := 48 + K) (N := 48) 0 u2 (by omega)) (by decide) (Nat.zero_le _) (fun m9 e9 => ?_)
      refine rX5_begin_85 h ?_
      rw [nI_1]
      have hm : 48 + K ∈ [48, 49, 50, 51, 52, 53, 54, 55] := by
        have c : K = 0 ∨ K = 1 ∨ K = 2 ∨ K = 3 ∨ K = 4 ∨ K = 5 ∨ K = 6 ∨ K = 7 := by omega
        rcases c with rfl | rfl | rfl | rfl | rfl | rfl | rfl | rfl <;> decide
      refine ih (K + 1) m9 (by omega) (fun K' hK' j hj => ?_) (by rw [e9]; exact q2.trans' (Same.put hm))
      rw [e9]
      by_cases e : K' = K
      · subst e
        rw [put_at]
        unfold fillTo
        rw [if_pos hj]
      · rw [put_ne _ _ (by omega)]
        exact q1 K' (by omega) j hj
  exact loop 8 0 m7 (by omega) (fun K' hK' => absurd hK' (Nat.not_lt_zero _)) Same.rfl'
theorem c_isWay (hl : l.stackTraces = false) (hG : jGok G) (x : Int32) : jCi l G yX7_isWay cX7_isWay 1 1 (some .boolean) [.int x] mu (fun v mu' => tf v (¬ x < 0 ∧ ¬ 2 < x) ∧ mu' = mu) := by
  refine jCi.of (pad := 0) hl hG (by decide) (Nat.le_of_ble_eq_true rfl) (fun X h => ?_)
  show J l G X _ 1 0 [.int x] [] mu 0
  refine rX7_isWay_0 h (fun q => ?_) (fun q q2 => ?_) (fun q q2 => ?_)
  · exact rX7_isWay_13 h (J_iret h dX7_isWay_14 rfl ⟨tf.zero (fun z => z.1 q), rfl⟩)
  · exact rX7_isWay_13 h (J_iret h dX7_isWay_14 rfl ⟨tf.zero (fun z => z.2 q2), rfl⟩)
  · exact J_iret h dX7_isWay_14 rfl ⟨tf.one ⟨q, q2⟩, rfl⟩
end C68
