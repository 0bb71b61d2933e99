/-! ===== the reference: calls on a run ===== -/
def PcR (n : Nat) (lk : Lk) (p : Nat) (mu : jM) : Prop :=
  (∀ x, x < n → mu 83 x = nI (depZ n lk p 1 x) ∧ mu 86 x = nI (depZ n lk p 2 x) ∧ mu 84 x = nI (clV (clAll lk n p) x)) ∧ mu 58 32 = nI (clAll lk n p).1 ∧ ∀ k, k < lk.length → mu 87 k = if chs lk (clV (clAll lk n p)) k then 1 else 0
theorem PcR.congr {n : Nat} {lk : Lk} {p : Nat} {mu mu' : jM} (h : PcR n lk p mu) (hc : ∀ c, c = 83 ∨ c = 84 ∨ c = 86 ∨ c = 87 → mu' c = mu c) (hf : mu' 58 32 = mu 58 32) : PcR n lk p mu' := by
  refine ⟨fun x hx => ?_, by rw [hf]; exact h.2.1, fun k hk => by rw [hc 87 (by omega)]; exact h.2.2 k hk⟩
  rw [hc 83 (by omega), hc 84 (by omega), hc 86 (by omega)]; exact h.1 x hx
theorem ch_link {n : Nat} {lk : Lk} (hok : NetOk n lk) (cl : Nat → Nat) {k : Nat} {e : Nat × Nat} (he : lk[k]? = some e) : chs lk cl k = cN lk cl lk.length e.1 e.2 := by
  have hk := (List.getElem?_eq_some_iff.mp he).1
  cases h1 : chs lk cl k with
  | true => exact (cN_iff.mpr ⟨k, e, hk, h1, he, mt_iff.mpr (Or.inl ⟨rfl, rfl⟩)⟩).symm
  | false =>
    cases h2 : cN lk cl lk.length e.1 e.2 with
    | false => rfl
    | true =>
      obtain ⟨l, e', hl, g1, g2, g3⟩ := cN_iff.mp h2
      have : k = l := mt_one hok he g2 (mt_iff.mpr (Or.inl ⟨rfl, rfl⟩)) g3
      rw [this, g1] at h1
      cases h1
/-- the reference's trees are the run's -/
theorem str_mk {n : Nat} {lk : Lk} {pr : List Wd} {p : Nat} {mu : jM} (hok : NetOk n lk) (hN : NetR n lk mu) (hP : ProgR pr mu) (hT : ∀ x, x < n → mu 82 x = parI ((trA n lk).2.2.1 x) ∧ mu 83 x = nI ((trA n lk).2.2.2 x)) (hC : RC n (clAll lk n p) mu) (hH : ∀ k, k < lk.length → mu 87 k = if chs lk (clV (clAll lk n p)) k then 1 else 0) : StR (mkZ n lk pr p) mu ∧ PcR n lk p mu := by
  have hCI := clAll_CI hok p
  refine ⟨⟨hN, hP, fun x hx => ?_, fun k e he => ?_⟩, fun x hx => ?_, hC.1, hH⟩
  · have hx : x < n := hx
    obtain ⟨t1, t2⟩ := hT x hx
    obtain ⟨c1, c2⟩ := hC.2 x hx
    have hs := (clV_some hCI hx).1
    obtain ⟨c3, c4⟩ := c2 (by rw [hs]; rfl)
    refine ⟨?_, ?_⟩
    · show mu 82 x = parI (parZ n lk p 1 x)
      rw [t1]; unfold parZ; rw [if_pos hx, if_pos rfl]
    · show mu 85 x = parI (parZ n lk p 2 x)
      rw [c3]; unfold parZ; rw [if_pos hx, if_neg (by decide), if_pos rfl]
  · have he : lk[k]? = some e := he
    rw [hH k (List.getElem?_eq_some_iff.mp he).1, ch_link hok _ he]
    rfl
  · have hx : x < n := hx
    obtain ⟨t1, t2⟩ := hT x hx
    obtain ⟨c1, c2⟩ := hC.2 x hx
    have hs := (clV_some hCI hx).1
    obtain ⟨c3, c4⟩ := c2 (by rw [hs]; rfl)
    refine ⟨t2, c4, ?_⟩
    rw [c1, hs]
    rfl
def WPr : List Nat := [71, 73, 74, 75, 76, 77, 78, 79, 80, 81, 82, 83, 84, 85, 86, 87, 88, 90]
def FPr : List Nat := [0, 18, 19, 20, 32, 38, 41]
section C70
variable {l : Launch} {G : jG} {mu : jM}
set_option maxHeartbeats 1000000 in
theorem k_prepare (hl : l.stackTraces = false) (hG : jGok G) {run : Bool} (hr : RunR run mu) {n : Nat} {lk : Lk} {pr : List Wd} (hok : NetOk n lk) (hN : NetR n lk mu) (hP : ProgR pr mu) (hlen : pr.length ≤ 64) {ok : Bool} (hv : ok = true ↔ Valid pr ∧ conn lk n) {inp : Nat → Int32} (hin : ∀ j, j < 192 → mu 63 j = inp j) (x y : Int32) : jCi l G yX8_prepare cX8_prepare 4 5 (some .int) [.ref 58, .int x, .int y] mu
    (fun r mu' => mu' 58 0 = nI (cdPrep run ok x y) ∧ (cdPrep run ok x y ≠ 0 → SmR [82, 83] [0] mu mu' ∧ (run = true → SmR [] [0] mu mu')) ∧ (cdPrep run ok x y = 0 → (∃ v p, x = nI v ∧ y = nI p ∧ v ≤ 2 ∧ p ≤ 8 ∧ r = nI (clAll lk n p).1 ∧ StR (mkZ n lk pr p) mu' ∧ PcR n lk p mu' ∧ RepR (mkZ n lk pr p) (rs0 inp v) mu') ∧ RunR true mu' ∧ SmR WPr FPr mu mu')) := by
  refine jCi.of (pad := 1) hl hG (by decide) (Nat.le_of_ble_eq_true rfl) (fun X h => ?_)
  show J l G X _ 4 0 [.ref 58, .int x, .int y, .float 0] [] mu 0
  have hn24 := hok.1
  have bad : ∀ (k : Nat) (r : Int32), cdPrep run ok x y = k → k ≠ 0 → ∀ ls m, (m = mu ∨ (run = false ∧ SmR [82, 83] [] mu m)) → J l G X (jRi G X (fun r mu' => mu' 58 0 = nI (cdPrep run ok x y) ∧ (cdPrep run ok x y ≠ 0 → SmR [82, 83] [0] mu mu' ∧ (run = true → SmR [] [0] mu mu')) ∧ (cdPrep run ok x y = 0 → (∃ v p, x = nI v ∧ y = nI p ∧ v ≤ 2 ∧ p ≤ 8 ∧ r = nI (clAll lk n p).1 ∧ StR (mkZ n lk pr p) mu' ∧ PcR n lk p mu' ∧ RepR (mkZ n lk pr p) (rs0 inp v) mu') ∧ RunR true mu' ∧ SmR WPr FPr mu mu'))) 4 63 ls [.int r] (wr m 58 0 (nI k)) 0 := fun k r hk h0 ls m hm => by
    refine J_iret h dX8_prepare_63 rfl ⟨by rw [rd_at, hk]; simp [upd], fun _ => ?_, fun z => absurd (hk ▸ z) h0⟩
    rcases hm with rfl | ⟨hf, hs⟩
    · exact ⟨SmR.fld (by decide), fun _ => SmR.fld (by decide)⟩
    · exact ⟨(hs.wide (fun c hc => hc) (by decide)).trans' (SmR.fld (by decide)), fun z => by rw [hf] at z; cases z⟩
  refine rX8_prepare_0 h (fun q => ?_) (fun q q2 => ?_) (fun q q2 q3 => ?_) (fun q q2 q3 q4 q5 => ?_) (fun q q2 q3 q4 q5 => ?_) (fun q q2 q3 q4 => ?_)
  · exact bad 1 0 (by unfold cdPrep; rw [if_pos (Or.inl q)]) (by decide) _ mu (Or.inl rfl)
  · exact bad 1 0 (by unfold cdPrep; rw [if_pos (Or.inr (Or.inl q2))]) (by decide) _ mu (Or.inl rfl)
  · exact bad 1 0 (by unfold cdPrep; rw [if_pos (Or.inr (Or.inr (Or.inl q3)))]) (by decide) _ mu (Or.inl rfl)
  · have ex : cdPrep run ok x y = if run then 2 else if ok then 0 else 2 := by unfold cdPrep; rw [if_neg (by rintro (z | z | z | z); exact q z; exact q2 z; exact q3 z; exact i_le_nlt q4 z)]
    exact bad 2 0 (by rw [ex, hr.yes q5]; rfl) (by decide) _ mu (Or.inl rfl)
  · have ex : cdPrep run ok x y = if run then 2 else if ok then 0 else 2 := by unfold cdPrep; rw [if_neg (by rintro (z | z | z | z); exact q z; exact q2 z; exact q3 z; exact i_le_nlt q4 z)]
    have hrf := hr.no q5
    rw [hrf] at ex
    refine rX8_prepare_33 h (k_wrongWord hl hG hP hlen) (by decide) (Nat.zero_le _) (fun w m1 e1 => ?_)
    obtain ⟨hw, rfl⟩ := e1
    have hwv := (hw.ok hlen).2
    refine rX8_prepare_36 h (fun q6 => ?_) (fun q6 => ?_)
    · rw [hwv] at q6
      have : ok = false := by
        cases hb : ok with
        | false => rfl
        | true => exact absurd (hv.mp hb).1 q6
      exact bad 2 0 (by rw [hrf, ex, this]; rfl) (by decide) _ m1 (Or.inl rfl)
    · rw [hwv] at q6
      refine rX8_prepare_41 h (k_makeTree hl hG hok hN) (by decide) (Nat.zero_le _) (fun w2 m2 e2 => ?_)
      obtain ⟨hw2, hT, sT⟩ := e2
      refine rX8_prepare_44 h (fun q7 => ?_) (fun q7 => ?_)
      · have hc := hw2.yes q7
        have h0 : cdPrep run ok x y = 0 := by rw [hrf, ex, hv.mpr ⟨q6, hc⟩]; rfl
        have hT := hT hc
        obtain ⟨v, hv2, rfl⟩ := nI_of2 (M := 2) (n := 2) rfl q (i_nlt q2)
        obtain ⟨p, hp8, rfl⟩ := nI_of2 (M := 8) (n := 8) rfl (x := y) (fun z => q3 (Int32.lt_of_lt_of_le z (by decide))) q4
        have hp2 : 2 ≤ p := by
          rcases Nat.lt_or_ge p 2 with z | z
          · exact absurd (nI_lt (b := 2) z (by omega)) q3
          · exact z
        have fin : ∀ m ls, StR (mkZ n lk pr p) m → PcR n lk p m → RepR (mkZ n lk pr p) (rs0 inp v) m → m 58 18 = 1 → m 58 0 = 0 → SmR WPr FPr m1 m → J l G X (jRi G X (fun r mu' => mu' 58 0 = nI (cdPrep run ok (nI v) (nI p)) ∧ (cdPrep run ok (nI v) (nI p) ≠ 0 → SmR [82, 83] [0] m1 mu' ∧ (run = true → SmR [] [0] m1 mu')) ∧ (cdPrep run ok (nI v) (nI p) = 0 → (∃ v' p', nI v = nI v' ∧ nI p = nI p' ∧ v' ≤ 2 ∧ p' ≤ 8 ∧ r = nI (clAll lk n p').1 ∧ StR (mkZ n lk pr p') mu' ∧ PcR n lk p' mu' ∧ RepR (mkZ n lk pr p') (rs0 inp v') mu') ∧ RunR true mu' ∧ SmR WPr FPr m1 mu'))) 4 229 ls [.int (m 58 32)] m 0 := fun m ls g1 g2 g3 g4 g5 g6 => by
          refine J_iret h dX8_prepare_229 rfl ⟨by rw [h0, g5]; rfl, fun z => absurd h0 z, fun _ => ⟨⟨v, p, rfl, rfl, hv2, hp8, g2.2.1, g1, g2, g3⟩, ?_, g6⟩⟩
          unfold RunR; rw [g4]; rfl
        revert fin
        generalize jRi G X (fun r mu' => mu' 58 0 = nI (cdPrep run ok (nI v) (nI p)) ∧ (cdPrep run ok (nI v) (nI p) ≠ 0 → SmR [82, 83] [0] m1 mu' ∧ (run = true → SmR [] [0] m1 mu')) ∧ (cdPrep run ok (nI v) (nI p) = 0 → (∃ v' p', nI v = nI v' ∧ nI p = nI p' ∧ v' ≤ 2 ∧ p' ≤ 8 ∧ r = nI (clAll lk n p').1 ∧ StR (mkZ n lk pr p') mu' ∧ PcR n lk p' mu' ∧ RepR (mkZ n lk pr p') (rs0 inp v') mu') ∧ RunR true mu' ∧ SmR WPr FPr m1 mu')) = Q0
        intro fin
        have sT0 : SmR [82, 83] [0] m1 (wr m2 58 0 0) := (sT.wide (fun c hc => hc) (by decide)).trans' (SmR.fld (by decide))
        refine rX8_prepare_66 h (k_makeClusters hl hG hok (hN.same sT0 (by decide) (by decide)) hp2 hp8) (by decide) (Nat.zero_le _) (fun m3 e3 => ?_)
        obtain ⟨hC3, hH3, s3⟩ := e3
        refine rX8_prepare_69 h ?_
        obtain ⟨m4, hm4⟩ : ∃ m : jM, m = wr (wr (wr (wr (wr (wr (wr m3 58 18 1) 58 19 0) 58 20 0) 73 (0 : Int32).toNatClampNeg 0) 74 (0 : Int32).toNatClampNeg (nI v)) 58 38 0) 58 41 0 := ⟨_, rfl⟩
        rw [← hm4]
        have S4 : SmR WPr FPr m1 m4 := by
          rw [hm4]
          exact (((((((((sT0.wide (by decide) (by decide)).trans' (s3.wide (by decide) (by decide))).trans' (SmR.fld (by decide))).trans' (SmR.fld (by decide))).trans' (SmR.fld (by decide))).trans' (SmR.wr (by decide) (by decide))).trans' (SmR.wr (by decide) (by decide))).trans' (SmR.fld (by decide))).trans' (SmR.fld (by decide)))
        have c4 : ∀ c, c ≠ 58 → c ≠ 73 → c ≠ 74 → m4 c = m3 c := fun c k1 k2 k3 => by
          rw [hm4, rd_ne _ _ _ k1, rd_ne _ _ _ k1, rd_ne _ _ _ k3, rd_ne _ _ _ k2, rd_ne _ _ _ k1, rd_ne _ _ _ k1, rd_ne _ _ _ k1]
        have c3 : ∀ c, c < 84 → c ≠ 58 → m3 c = m2 c := fun c k1 k2 => by rw [s3.1 c (by simp only [List.mem_cons, List.not_mem_nil, or_false]; omega) k2, rd_ne _ _ _ k2]
        have hC4 : RC n (clAll lk n p) m4 := ⟨by rw [hm4]; exact hC3.1, fun x' hx' => by
          rw [c4 84 (by decide) (by decide) (by decide), c4 85 (by decide) (by decide) (by decide), c4 86 (by decide) (by decide) (by decide)]
          exact hC3.2 x' hx'⟩
        obtain ⟨g1, g2⟩ := str_mk (pr := pr) (mu := m4) hok (hN.same S4 (by decide) (by decide)) (hP.same S4 (by decide) (by decide)) (fun x' hx' => by
          rw [c4 82 (by decide) (by decide) (by decide), c4 83 (by decide) (by decide) (by decide), c3 82 (by decide) (by decide), c3 83 (by decide) (by decide)]
          exact hT x' hx') hC4 (fun k hk => by rw [c4 87 (by decide) (by decide) (by decide)]; exact hH3 k hk)
        have f18 : m4 58 18 = 1 := by rw [hm4]; rfl
        have f19 : m4 58 19 = 0 := by rw [hm4]; rfl
        have f20 : m4 58 20 = 0 := by rw [hm4]; rfl
        have f38 : m4 58 38 = 0 := by rw [hm4]; rfl
        have f41 : m4 58 41 = 0 := by rw [hm4]; rfl
        have f0 : m4 58 0 = 0 := by
          have e0 : m3 58 0 = 0 := by rw [s3.2 0 (by decide), rd_at]; simp [upd]
          rw [hm4]; exact e0
        have f73 : m4 73 0 = 0 := by rw [hm4]; rfl
        have f74 : m4 74 0 = nI v := by rw [hm4]; rfl
        clear hm4 c4
        -- what goes on: all cells but those that a loop writes
        have nodes : ∀ (w k : Nat) (m : jM), k + w = 24 → SmR [71, 75, 76, 77, 78, 79, 80, 81, 90] [] m4 m → (∀ j, j < 3 → m 90 j = 0) → (∀ j, j < 192 → m 76 j = inp j) → (∀ j, j < 384 → m 81 j = 0) → (∀ j, j < 240 → m 71 j = 0) → (∀ j, j < k → m 75 j = 0 ∧ m 77 j = 0 ∧ m 78 j = 0 ∧ m 79 j = 0 ∧ m 80 j = 0) →
            J l G X Q0 4 201 [.ref 58, .int (nI v), .int (nI p), .int (nI k)] [] m 0 := by
          intro w
          induction w with
          | zero =>
            intro k m hk s90 z90 z76 z81 z71 zn
            have hge : 24 ≤ nI k := nI_le (a := 24) (by omega) (by omega)
            refine rX8_prepare_201 h (fun z => absurd hge z) (fun _ => ?_) (fun z => absurd hge z)
            have cc : ∀ c, c < 71 ∨ c = 72 ∨ c = 73 ∨ c = 74 ∨ (81 < c ∧ c < 90) → c ≠ 58 → m c = m4 c := fun c k1 k2 => s90.1 c (by simp only [List.mem_cons, List.not_mem_nil, or_false]; omega) k2
            have ff : ∀ f, m 58 f = m4 58 f := fun f => s90.2 f (by simp)
            refine fin m _ (g1.congr (fun f _ => ff f) (fun c hc => cc c (by omega) (by omega))) (g2.congr (fun c hc => cc c (by omega) (by omega)) (ff 32)) ⟨fun a ha => ?_, ⟨z76, ?_, ?_⟩, fun a ha => ?_, fun K q b k1 k2 k3 k4 => ?_, ⟨?_, fun j e he => by have he : ([] : List Lt)[j]? = some e := he; simp at he, fun c hc => z90 c hc⟩, ⟨?_, ?_⟩, ?_, fun j e he => ?_⟩ (by rw [ff]; exact f18) (by rw [ff]; exact f0) (S4.trans' (s90.wide (by decide) (by decide)))
            · exact ⟨(zn a (by omega)).1, (zn a (by omega)).2.1⟩
            · intro b p' l' a1 a2
              obtain ⟨-, -, d1, -⟩ := port_link hok a2
              have hdr := dr_lt hok b d1
              exact ⟨z71 _ (by show 120 * 0 + dr lk l' b < 240; omega), fun u hu => by cases hu⟩
            · intro b p' l' a1 a2
              obtain ⟨-, -, d1, -⟩ := port_link hok a2
              have hdr := dr_lt hok b d1
              exact ⟨z71 _ (by show 120 * 1 + dr lk l' b < 240; omega), fun u hu => by cases hu⟩
            · exact ⟨(zn a (by omega)).2.2.1, (zn a (by omega)).2.2.2.1, (zn a (by omega)).2.2.2.2⟩
            · rw [z81 _ (by omega)]
              have : cnt (mkZ n lk pr p).n ((rs0 inp v).hd K q b) = 0 := fb_ct_zero.mpr (fun _ _ => rfl)
              rw [this]
              rfl
            · rw [ff, f38]; rfl
            · rw [ff, f19]; rfl
            · rw [ff, f41]; rfl
            · rw [ff, f20]; rfl
            · have hj : j = 0 := by
                have := (List.getElem?_eq_some_iff.mp he).1
                have : j < 1 := this
                omega
              subst hj
              cases he
              rw [cc 73 (by omega) (by decide), cc 74 (by omega) (by decide), f73, f74]
              exact ⟨rfl, rfl⟩
          | succ w ih =>
            intro k m hk s90 z90 z76 z81 z71 zn
            have hge : ¬ 24 ≤ nI k := nI_ge (b := 24) (by omega) (by omega)
            refine rX8_prepare_201 h (fun _ => vp_in_nI (by omega) (by omega)) (fun z => absurd z hge) (fun _ => ?_)
            rw [nI_clamp (by omega)]
            refine rX8_prepare_216 h (k_clearNode hl hG (by omega : k < 24)) (by decide) (Nat.zero_le _) (fun m5 e5 => ?_)
            refine rX8_prepare_219 h ?_
            rw [nI_1]
            subst e5
            refine ih (k + 1) _ (by omega) ((((((s90.trans' (SmR.wr (by decide) (by decide))).trans' (SmR.wr (by decide) (by decide))).trans' (SmR.wr (by decide) (by decide))).trans' (SmR.wr (by decide) (by decide))).trans' (SmR.wr (by decide) (by decide)))) z90 z76 z81 z71 (fun j hj => ?_)
            show (if j = k then 0 else m 75 j) = 0 ∧ (if j = k then 0 else m 77 j) = 0 ∧ (if j = k then 0 else m 78 j) = 0 ∧ (if j = k then 0 else m 79 j) = 0 ∧ (if j = k then 0 else m 80 j) = 0
            by_cases e : j = k
            · rw [if_pos e, if_pos e, if_pos e, if_pos e, if_pos e]
              exact ⟨rfl, rfl, rfl, rfl, rfl⟩
            · rw [if_neg e, if_neg e, if_neg e, if_neg e, if_neg e]
              exact zn j (by omega)
        have l179 : ∀ (w k : Nat) (m : jM), k + w = 240 → SmR [71, 75, 76, 77, 78, 79, 80, 81, 90] [] m4 m → (∀ j, j < 3 → m 90 j = 0) → (∀ j, j < 192 → m 76 j = inp j) → (∀ j, j < 384 → m 81 j = 0) → (∀ j, j < k → m 71 j = 0) → J l G X Q0 4 179 [.ref 58, .int (nI v), .int (nI p), .int (nI k)] [] m 0 := by
          intro w
          induction w with
          | zero =>
            intro k m hk s90 z90 z76 z81 z71
            have hge : 240 ≤ nI k := nI_le (a := 240) (by omega) (by omega)
            refine rX8_prepare_179 h (fun z => absurd hge z) (fun _ => ?_) (fun z => absurd hge z)
            exact nodes 24 0 m (by omega) s90 z90 z76 z81 (fun j hj => z71 j (by omega)) (fun j hj => absurd hj (Nat.not_lt_zero _))
          | succ w ih =>
            intro k m hk s90 z90 z76 z81 z71
            have hge : ¬ 240 ≤ nI k := nI_ge (b := 240) (by omega) (by omega)
            refine rX8_prepare_179 h (fun _ => vp_in_nI (by omega) (by omega)) (fun z => absurd z hge) (fun _ => ?_)
            rw [nI_clamp (by omega), nI_1, show vp_nar .boolean 0 = 0 from rfl]
            refine ih (k + 1) _ (by omega) (s90.trans' (SmR.wr (by decide) (by decide))) z90 z76 z81 (fun j hj => ?_)
            show (if j = k then 0 else m 71 j) = 0
            by_cases e : j = k
            · rw [if_pos e]
            · rw [if_neg e]; exact z71 j (by omega)
        have l157 : ∀ (w k : Nat) (m : jM), k + w = 384 → SmR [71, 75, 76, 77, 78, 79, 80, 81, 90] [] m4 m → (∀ j, j < 3 → m 90 j = 0) → (∀ j, j < 192 → m 76 j = inp j) → (∀ j, j < k → m 81 j = 0) → J l G X Q0 4 157 [.ref 58, .int (nI v), .int (nI p), .int (nI k)] [] m 0 := by
          intro w
          induction w with
          | zero =>
            intro k m hk s90 z90 z76 z81
            have hge : 384 ≤ nI k := nI_le (a := 384) (by omega) (by omega)
            refine rX8_prepare_157 h (fun z => absurd hge z) (fun _ => ?_) (fun z => absurd hge z)
            exact l179 240 0 m (by omega) s90 z90 z76 (fun j hj => z81 j (by omega)) (fun j hj => absurd hj (Nat.not_lt_zero _))
          | succ w ih =>
            intro k m hk s90 z90 z76 z81
            have hge : ¬ 384 ≤ nI k := nI_ge (b := 384) (by omega) (by omega)
            refine rX8_prepare_157 h (fun _ => vp_in_nI (by omega) (by omega)) (fun z => absurd z hge) (fun _ => ?_)
            rw [nI_clamp (by omega), nI_1]
            refine ih (k + 1) _ (by omega) (s90.trans' (SmR.wr (by decide) (by decide))) z90 z76 (fun j hj => ?_)
            show (if j = k then 0 else m 81 j) = 0
            by_cases e : j = k
            · rw [if_pos e]
            · rw [if_neg e]; exact z81 j (by omega)
        have h63 : m4 63 = m1 63 := S4.1 63 (by decide) (by decide)
        have l130 : ∀ (w k : Nat) (m : jM), k + w = 192 → SmR [71, 75, 76, 77, 78, 79, 80, 81, 90] [] m4 m → (∀ j, j < 3 → m 90 j = 0) → (∀ j, j < k → m 76 j = inp j) → J l G X Q0 4 130 [.ref 58, .int (nI v), .int (nI p), .int (nI k)] [] m 0 := by
          intro w
          induction w with
          | zero =>
            intro k m hk s90 z90 z76
            have hge : 192 ≤ nI k := nI_le (a := 192) (by omega) (by omega)
            refine rX8_prepare_130 h (fun z => absurd hge z) (fun z => absurd hge z) (fun _ => ?_) (fun z => absurd hge z)
            exact l157 384 0 m (by omega) s90 z90 (fun j hj => z76 j (by omega)) (fun j hj => absurd hj (Nat.not_lt_zero _))
          | succ w ih =>
            intro k m hk s90 z90 z76
            have hge : ¬ 192 ≤ nI k := nI_ge (b := 192) (by omega) (by omega)
            refine rX8_prepare_130 h (fun _ => vp_in_nI (by omega) (by omega)) (fun _ => vp_in_nI (by omega) (by omega)) (fun z => absurd z hge) (fun _ => ?_)
            rw [nI_clamp (by omega), nI_1, s90.1 63 (by decide) (by decide), h63, hin k (by omega)]
            refine ih (k + 1) _ (by omega) (s90.trans' (SmR.wr (by decide) (by decide))) z90 (fun j hj => ?_)
            show (if j = k then inp k else m 76 j) = inp j
            by_cases e : j = k
            · rw [if_pos e, e]
            · rw [if_neg e]; exact z76 j (by omega)
        have l110 : ∀ (w k : Nat) (m : jM), k + w = 3 → SmR [71, 75, 76, 77, 78, 79, 80, 81, 90] [] m4 m → (∀ j, j < k → m 90 j = 0) → J l G X Q0 4 110 [.ref 58, .int (nI v), .int (nI p), .int (nI k)] [] m 0 := by
          intro w
          induction w with
          | zero =>
            intro k m hk s90 z90
            have hge : 3 ≤ nI k := nI_le (a := 3) (by omega) (by omega)
            refine rX8_prepare_110 h (fun z => absurd hge z) (fun _ => ?_) (fun z => absurd hge z)
            exact l130 192 0 m (by omega) s90 (fun j hj => z90 j (by omega)) (fun j hj => absurd hj (Nat.not_lt_zero _))
          | succ w ih =>
            intro k m hk s90 z90
            have hge : ¬ 3 ≤ nI k := nI_ge (b := 3) (by omega) (by omega)
            refine rX8_prepare_110 h (fun _ => vp_in_nI (by omega) (by omega)) (fun z => absurd z hge) (fun _ => ?_)
            rw [nI_clamp (by omega), nI_1]
            refine ih (k + 1) _ (by omega) (s90.trans' (SmR.wr (by decide) (by decide))) (fun j hj => ?_)
            show (if j = k then 0 else m 90 j) = 0
            by_cases e : j = k
            · rw [if_pos e]
            · rw [if_neg e]; exact z90 j (by omega)
        exact l110 3 0 m4 (by omega) SmR.rfl' (fun j hj => absurd hj (Nat.not_lt_zero _))
      · have hc := hw2.no q7
        have : ok = false := by
          cases hb : ok with
          | false => rfl
          | true => exact absurd (hv.mp hb).2 hc
        exact bad 2 0 (by rw [hrf, ex, this]; rfl) (by decide) _ m2 (Or.inr ⟨hrf, sT⟩)
  · exact bad 1 0 (by unfold cdPrep; rw [if_pos (Or.inr (Or.inr (Or.inr (i_nle q4))))]) (by decide) _ mu (Or.inl rfl)
end C70
