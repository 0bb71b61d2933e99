/-! ===== the reference's tree ===== -/
theorem lnk_iff {n : Nat} {lk : Lk} (hok : NetOk n lk) (a b : Nat) : lnkTo lk a b lk.length = -1 ↔ b ∉ nbl lk a := by
  have h60 := hok.2.1
  by_cases hab : a = b
  · subst hab
    refine ⟨fun _ z => (hok.nb z).2.2 rfl, fun _ => lnkTo_none (fun k e he => ?_) _⟩
    have hne := (hok.2.2.1 e (List.mem_of_getElem? he)).2.2
    unfold mt
    by_cases z : e.1 = a
    · have : ¬ e.2 = a := fun w => hne (z.trans w.symm)
      simp [this]
    · simp [z]
  · constructor
    · intro q z
      obtain ⟨k, e, he, hm⟩ := (nbl_mt hab).mp z
      have hk := (List.getElem?_eq_some_iff.mp he).1
      rw [lnkTo_some hok he hm _ hk] at q
      exact absurd (by rw [q]; decide) (nI_pos (n := k) (by omega))
    · intro z
      refine lnkTo_none (fun k e he => ?_) _
      rcases Bool.eq_false_or_eq_true (mt e a b) with w | w
      · exact absurd ((nbl_mt hab).mpr ⟨k, e, he, w⟩) z
      · exact w
/-- steps without a stop -/
def gIt (lk : Lk) (n : Nat) (free : NS) : Nat → Nat → TS → TS
  | 0, _, s => s
  | f + 1, d, s => gIt lk n free f (d + 1) (gStep lk n free d s)
def tsEq (s t : TS) : Prop := s.1 = t.1 ∧ s.2.2.1 = t.2.2.1 ∧ s.2.2.2 = t.2.2.2
theorem gIt_still {lk : Lk} {n : Nat} {free : NS} : ∀ (f d : Nat) (s : TS), (∀ x, lyr lk n free s.1 x = false) → tsEq s (gIt lk n free f d s)
  | 0, d, s, h => ⟨rfl, rfl, rfl⟩
  | f + 1, d, s, h => by
    have e1 : (gStep lk n free d s).1 = s.1 := by funext x; show (s.1 x || lyr lk n free s.1 x) = s.1 x; rw [h x, Bool.or_false]
    have e2 : (gStep lk n free d s).2.2.1 = s.2.2.1 := by funext x; show (if lyr lk n free s.1 x = true then _ else _) = _; rw [if_neg (by rw [h x]; decide)]
    have e3 : (gStep lk n free d s).2.2.2 = s.2.2.2 := by funext x; show (if lyr lk n free s.1 x = true then _ else _) = _; rw [if_neg (by rw [h x]; decide)]
    have := gIt_still f (d + 1) (gStep lk n free d s) (by rw [e1]; exact h)
    exact ⟨e1.symm.trans this.1, e2.symm.trans this.2.1, e3.symm.trans this.2.2⟩
theorem growA_it {lk : Lk} {n : Nat} (hok : NetOk n lk) {free : NS} : ∀ (f d : Nat) (s : TS), tsEq (growA lk n free 0 f d s) (gIt lk n free f d s)
  | 0, d, s => ⟨rfl, rfl, rfl⟩
  | f + 1, d, s => by
    unfold growA
    split
    · next q =>
      refine gIt_still (f + 1) d s (fun x => ?_)
      unfold stops at q
      have hz : cnt n (lyr lk n free s.1) = 0 := by simpa using q
      rcases Bool.eq_false_or_eq_true (lyr lk n free s.1 x) with z | z
      · obtain ⟨-, -, w, -, -, q⟩ := lyr_iff.mp z
        rw [fb_ct_zero.mp hz x (hok.nb q).2.1] at z; cases z
      · exact z
    · exact growA_it hok f (d + 1) _
theorem gIt_GI {lk : Lk} {n : Nat} (hok : NetOk n lk) {free : NS} {root : Nat} : ∀ (f d : Nat) (s : TS), GI lk n free root d s → GI lk n free root (d + f) (gIt lk n free f d s)
  | 0, d, s, h => h
  | f + 1, d, s, h => by
    rw [show d + (f + 1) = (d + 1) + f by omega]
    exact gIt_GI hok f (d + 1) _ (h.step hok)
theorem gIt_rch {n : Nat} {lk : Lk} (hok : NetOk n lk) : ∀ (f d : Nat) (s : TS), s.1 = rch lk n d → (gIt lk n (allN n) f d s).1 = rch lk n (d + f)
  | 0, d, s, h => h
  | f + 1, d, s, h => by
    rw [show d + (f + 1) = (d + 1) + f by omega]
    exact gIt_rch hok f (d + 1) _ (by
      show (fun x => s.1 x || lyr lk n (allN n) s.1 x) = _
      rw [lyr_all hok, h]; rfl)
def dpI (s : TS) (x : Nat) : Int32 := if s.1 x then nI (s.2.2.2 x) else -1
section C51
variable {l : Launch} {G : jG} {mu : jM}
theorem k_makeTree (hl : l.stackTraces = false) (hG : jGok G) {n : Nat} {lk : Lk} (hok : NetOk n lk) (hN : NetR n lk mu) : jCi l G yX8_makeTree cX8_makeTree 6 2 (some .boolean) [.ref 58] mu (fun v mu' => tf v (conn lk n) ∧ (conn lk n → ∀ x, x < n → mu' 82 x = parI ((growA lk n (allN n) 0 n 0 (gInit 0)).2.2.1 x) ∧ mu' 83 x = nI ((growA lk n (allN n) 0 n 0 (gInit 0)).2.2.2 x)) ∧ SmR [82, 83] [] mu mu') := by
  refine jCi.of (pad := 5) hl hG (by decide) (Nat.le_of_ble_eq_true rfl) (fun X h => ?_)
  show J l G X _ 6 0 [.ref 58, .float 0, .float 0, .float 0, .float 0, .float 0] [] mu 0
  have hn := hok.1
  have h60 := hok.2.1
  refine rX8_makeTree_0 h ?_
  obtain ⟨T, hT⟩ : ∃ T, T = growA lk n (allN n) 0 n 0 (gInit 0) := ⟨_, rfl⟩
  rw [← hT]
  have yes : ∀ m3 ls, conn lk n → (∀ x, x < n → m3 82 x = parI (T.2.2.1 x) ∧ m3 83 x = nI (T.2.2.2 x)) → SmR [82, 83] [] mu m3 → J l G X (jRi G X (fun v mu' => tf v (conn lk n) ∧ (conn lk n → ∀ x, x < n → mu' 82 x = parI (T.2.2.1 x) ∧ mu' 83 x = nI (T.2.2.2 x)) ∧ SmR [82, 83] [] mu mu')) 6 271 ls [.int 1] m3 0 := fun m3 ls q1 q2 q3 => J_iret h dX8_makeTree_271 rfl ⟨tf.one q1, fun _ => q2, q3⟩
  have no : ∀ m3 ls pc, decode cX8_makeTree pc = .ok (.ireturn, 1) → ¬ conn lk n → SmR [82, 83] [] mu m3 → J l G X (jRi G X (fun v mu' => tf v (conn lk n) ∧ (conn lk n → ∀ x, x < n → mu' 82 x = parI (T.2.2.1 x) ∧ mu' 83 x = nI (T.2.2.2 x)) ∧ SmR [82, 83] [] mu mu')) 6 pc ls [.int 0] m3 0 := fun m3 ls pc d q1 q3 => J_iret h d rfl ⟨tf.zero q1, fun z => absurd z q1, q3⟩
  revert yes no
  generalize jRi G X (fun v mu' => tf v (conn lk n) ∧ (conn lk n → ∀ x, x < n → mu' 82 x = parI (T.2.2.1 x) ∧ mu' 83 x = nI (T.2.2.2 x)) ∧ SmR [82, 83] [] mu mu') = Q0
  intro yes no
  -- parents
  have par3 : ∀ (s : TS), 0 < n → GI lk n (allN n) 0 n s → s.1 = rch lk n n → tsEq T s → ∀ (w a : Nat) (al : Int32) (m3 : jM), a + w = n → tf al (∀ x, x < a → s.1 x = true) → (∀ x, x < n → m3 83 x = dpI s x) → (∀ x, x < n → m3 82 x = if x < a ∧ s.1 x = true then parI (s.2.2.1 x) else -1) → SmR [82, 83] [] mu m3 →
      J l G X Q0 6 167 [.ref 58, .int al, .int (nI a), .float 0, .float 0, .float 0] [] m3 0 := by
    intro s h0 hI hr hTs w
    have hdn : ∀ x, s.1 x = true → s.2.2.2 x ≤ n := hI.2.2.2.1
    have dp1 : ∀ x, dpI s x = -1 ↔ s.1 x = false := fun x => by
      unfold dpI
      by_cases z : s.1 x = true
      · rw [if_pos z]
        exact ⟨fun w => absurd (by rw [w]; decide) (nI_pos (n := s.2.2.2 x) (by have := hdn x z; omega)), fun w => by rw [z] at w; cases w⟩
      · rw [if_neg z]; exact ⟨fun _ => by simpa using z, fun _ => rfl⟩
    induction w with
    | zero =>
      intro a al m3 ha q1 q2 q3 q4
      have han : a = n := by omega
      subst han
      have hle : m3 58 1 ≤ nI a := by rw [q4.2 1 (by simp), hN.1]; exact Int32.le_refl _
      refine rX8_makeTree_167 h (fun z => absurd hle z) (fun _ => ?_) (fun z => absurd hle z) (fun z => absurd hle z) (fun z => absurd hle z)
      by_cases hc : conn lk a
      · have hall : ∀ x, x < a → s.1 x = true := fun x hx => by
          rw [hr]
          have := rch_up 1 (hc.2 x hx)
          rw [show a - 1 + 1 = a by omega] at this
          exact this
        have : al = 1 := by
          rcases q1 with z | z
          · exact z.2
          · exact absurd hall z.1
        subst this
        refine yes m3 _ hc (fun x hx => ?_) q4
        rw [hTs.2.1, hTs.2.2, q3 x hx, if_pos ⟨hx, hall x hx⟩, q2 x hx]
        unfold dpI
        rw [if_pos (hall x hx)]
        exact ⟨rfl, rfl⟩
      · have : al = 0 := by
          rcases q1 with z | z
          · exact absurd ⟨h0, fun x hx => rch_all hok h0 (by rw [← hr]; exact z.1 x hx)⟩ hc
          · exact z.2
        subst this
        exact no m3 _ 271 dX8_makeTree_271 hc q4
    | succ w ih =>
      intro a al m3 ha q1 q2 q3 q4
      have han : a < n := by omega
      have hle : ¬ m3 58 1 ≤ nI a := by rw [q4.2 1 (by simp), hN.1]; exact nI_ge (by omega) (by omega)
      have hca : (nI a).toNatClampNeg = a := nI_clamp (by omega)
      have va : vp_in (nI a) 24 := vp_in_nI (by omega) (by omega)
      -- the walk down
      obtain ⟨cand, hcand⟩ : ∃ cand : Nat → Prop, ∀ z, cand z ↔ (s.1 a = true ∧ s.1 z = true ∧ s.2.2.2 z + 1 = s.2.2.2 a ∧ a ∈ nbl lk z) := ⟨fun z => s.1 a = true ∧ s.1 z = true ∧ s.2.2.2 z + 1 = s.2.2.2 a ∧ a ∈ nbl lk z, fun z => Iff.rfl⟩
      have down : ∀ (al2 : Int32), tf al2 (∀ x, x < a + 1 → s.1 x = true) → ∀ (b : Nat) (m4 : jM), b ≤ n → (∀ x, x < n → m4 83 x = dpI s x) → (∀ x, x < n → x ≠ a → m4 82 x = if x < a ∧ s.1 x = true then parI (s.2.2.1 x) else -1) → ((m4 82 a = -1 ∧ ∀ z, b ≤ z → z < n → ¬ cand z) ∨ ∃ y, b ≤ y ∧ y < n ∧ cand y ∧ m4 82 a = nI y ∧ ∀ z, b ≤ z → z < y → ¬ cand z) → SmR [82, 83] [] mu m4 →
          J l G X Q0 6 202 [.ref 58, .int al2, .int (nI a), .int (nI b - 1), .float 0, .float 0] [] m4 0 := by
        intro al2 hal2 b
        induction b with
        | zero =>
          intro m4 hb r1 r2 r3 r4
          have hlt : nI 0 - 1 < 0 := by decide
          refine rX8_makeTree_202 h (fun z => absurd hlt z) (fun z => absurd hlt z) (fun z => absurd hlt z) (fun z => absurd hlt z) (fun z => absurd hlt z) (fun z => absurd hlt z) (fun z => absurd hlt z) (fun _ => ?_) (fun z => absurd hlt z) (fun z => absurd hlt z) (fun z => absurd hlt z)
          rw [nI_1]
          refine J_forget 3 (ih (a + 1) al2 m4 (by omega) hal2 r1 (fun x hx => ?_) r4)
          by_cases z : x = a
          · rw [z]
            by_cases zs : s.1 a = true
            · rw [if_pos ⟨by omega, zs⟩]
              by_cases zr : a = 0
              · have hp : s.2.2.1 a = none := by rw [zr]; exact hI.2.2.2.2.2.1
                have hd0 : s.2.2.2 a = 0 := by rw [zr]; exact hI.2.2.2.2.2.2.1
                rw [hp]
                rcases r3 with u | ⟨y, u1, u2, u3, u4⟩
                · exact u.1
                · have := ((hcand y).mp u3).2.2.1; omega
              · obtain ⟨y, e1, e2, e3, e4, e6⟩ := hI.2.2.2.2.2.2.2 a zs zr
                rw [e1]
                have hcy : cand y := (hcand y).mpr ⟨zs, e2, by omega, e3⟩
                have hyn := (hI.2.1 y e2).1
                rcases r3 with u | ⟨y', u1, u2, u3, u4, u5⟩
                · exact absurd hcy (u.2 y (by omega) hyn)
                · rw [u4]
                  have g := (hcand y').mp u3
                  have : y' = y := by
                    rcases Nat.lt_trichotomy y' y with v | v | v
                    · exact absurd g.2.2.2 (e6 y' v g.2.1 (by omega))
                    · exact v
                    · exact absurd hcy (u5 y (by omega) v)
                  rw [this]; rfl
            · rw [if_neg (fun u => zs u.2)]
              rcases r3 with u | ⟨y, u1, u2, u3, u4⟩
              · exact u.1
              · exact absurd ((hcand y).mp u3).1 zs
          · rw [r2 x hx z]
            simp only [show x < a + 1 ↔ x < a from by omega]
        | succ b ihb =>
          intro m4 hb r1 r2 r3 r4
          have N4 := hN.same r4 (by decide) (by decide)
          rw [nI_pred]
          have hlt : ¬ nI b < 0 := nI_pos (by omega)
          have vb : vp_in (nI b) 24 := vp_in_nI (by omega) (by omega)
          have cb : (nI b).toNatClampNeg = b := nI_clamp (by omega)
          have hm1 : nI b + (-1) = nI b - 1 := by rw [Int32.sub_eq_add_neg]
          have rda : m4 83 (nI a).toNatClampNeg = dpI s a := by rw [hca]; exact r1 a han
          have rdb : m4 83 (nI b).toNatClampNeg = dpI s b := by rw [cb]; exact r1 b (by omega)
          -- no change at b
          have same : ¬ cand b → J l G X Q0 6 202 [.ref 58, .int al2, .int (nI a), .int (nI b + (-1)), .float 0, .float 0] [] (wr m4 82 (nI a).toNatClampNeg (m4 82 (nI a).toNatClampNeg)) 0 := fun hno => by
            have hw : wr m4 82 (nI a).toNatClampNeg (m4 82 (nI a).toNatClampNeg) = m4 := by
              unfold wr
              rw [show upd (m4 82) (nI a).toNatClampNeg (m4 82 (nI a).toNatClampNeg) = m4 82 from (by
                funext j
                unfold upd
                split
                · next z => rw [z]
                · rfl)]
              exact put_self m4 82
            rw [hw, hm1]
            refine ihb m4 (by omega) r1 r2 ?_ r4
            rcases r3 with ⟨u1, u2⟩ | ⟨y, u1, u2, u3, u4, u5⟩
            · refine Or.inl ⟨u1, fun z z1 z2 => ?_⟩
              rcases Nat.lt_or_ge b z with v | v
              · exact u2 z v z2
              · rw [show z = b by omega]; exact hno
            · refine Or.inr ⟨y, by omega, u2, u3, u4, fun z z1 z2 => ?_⟩
              rcases Nat.lt_or_ge b z with v | v
              · exact u5 z v z2
              · rw [show z = b by omega]; exact hno
          have dle : dpI s a ≤ 0 ↔ ¬ (s.1 a = true ∧ 0 < s.2.2.2 a) := by
            unfold dpI
            by_cases z : s.1 a = true
            · rw [if_pos z]
              have := hdn a z
              constructor
              · intro u w
                exact absurd ((nI_leI (b := 0) (by omega) (by omega)).mp u) (by omega)
              · intro u
                exact nI_le (b := 0) (by
                  rcases Nat.eq_zero_or_pos (s.2.2.2 a) with v | v
                  · omega
                  · exact absurd ⟨z, v⟩ u) (by omega)
            · rw [if_neg z]
              exact ⟨fun _ u => z u.1, fun _ => by decide⟩
          have deq : s.1 a = true ∧ 0 < s.2.2.2 a → (dpI s b = dpI s a - 1 ↔ s.1 b = true ∧ s.2.2.2 b + 1 = s.2.2.2 a) := fun ⟨z, zp⟩ => by
            have hda := hdn a z
            have e : dpI s a - 1 = nI (s.2.2.2 a - 1) := by unfold dpI; rw [if_pos z, nL1, nI_sub (by omega)]
            rw [e]
            unfold dpI
            by_cases zb : s.1 b = true
            · have := hdn b zb
              rw [if_pos zb, nI_eq (by omega) (by omega)]
              exact ⟨fun u => ⟨zb, by omega⟩, fun u => by omega⟩
            · rw [if_neg zb]
              exact ⟨fun u => absurd (by rw [← u]; decide) (nI_pos (n := s.2.2.2 a - 1) (by omega)), fun u => absurd u.1 zb⟩
          refine rX8_makeTree_202 h (fun _ => va) (fun _ _ => va) (fun _ _ => va) (fun _ _ => vb) (fun _ _ => va) (fun _ _ _ => va) (fun _ _ _ => va) (fun z => absurd z hlt) (fun _ u => ?_) (fun _ u u2 => ?_) (fun _ u u2 => ?_)
          · rw [rda, dle] at u
            exact same (fun v => by have := (hcand b).mp v; exact u ⟨this.1, by omega⟩)
          · rw [rda, dle] at u
            have u := Classical.not_not.mp u
            rw [rda, rdb, deq u] at u2
            exact same (fun v => by have := (hcand b).mp v; exact u2 ⟨this.2.1, this.2.2.1⟩)
          · rw [rda, dle] at u
            have u := Classical.not_not.mp u
            rw [rda, rdb, deq u] at u2
            refine rX8_makeTree_240 h (k_linkOf hl hG hok N4.2.1 N4.2.2.1 (by omega) (by omega)) (by decide) (Nat.zero_le _) (fun v m5 e5 => ?_)
            obtain ⟨rfl, rfl⟩ := e5
            refine rX8_makeTree_243 h (fun _ => va) (fun _ => va) (fun _ => va) (fun u3 => ?_) (fun u3 => ?_)
            · rw [lnk_iff hok] at u3
              exact same (fun v => by have := (hcand b).mp v; exact u3 ((nbl_sym hok).mp this.2.2.2))
            · rw [lnk_iff hok] at u3
              have u3 := (nbl_sym hok).mp (Classical.not_not.mp u3)
              rw [hm1, hca]
              refine ihb _ (by omega) r1 (fun x hx hxa => ?_) (Or.inr ⟨b, Nat.le_refl _, by omega, (hcand b).mpr ⟨u.1, u2.1, u2.2, u3⟩, by rw [rd_at]; exact if_pos rfl, fun z z1 z2 => absurd z1 (by omega)⟩) (r4.trans' (SmR.wr (by decide) (by decide)))
              show (if x = a then _ else m5 82 x) = _
              rw [if_neg hxa]; exact r2 x hx hxa
      have r3a : ∀ m4 : jM, m4 82 a = -1 → ((m4 82 a = -1 ∧ ∀ z, n ≤ z → z < n → ¬ cand z) ∨ ∃ y, n ≤ y ∧ y < n ∧ cand y ∧ m4 82 a = nI y ∧ ∀ z, n ≤ z → z < y → ¬ cand z) := fun m4 hm => Or.inl ⟨hm, fun z z1 z2 => absurd z1 (by omega)⟩
      have m82 : m3 82 a = -1 := by rw [q3 a han, if_neg (by omega)]
      have q3' : ∀ x, x < n → x ≠ a → m3 82 x = if x < a ∧ s.1 x = true then parI (s.2.2.1 x) else -1 := fun x hx _ => q3 x hx
      have hnn : m3 58 1 - 1 = nI n - 1 := by rw [q4.2 1 (by simp), hN.1]
      have da : m3 83 (nI a).toNatClampNeg = dpI s a := by rw [hca]; exact q2 a han
      have allno : ¬ (∀ x, x < a → s.1 x = true) ∨ s.1 a = false → tf 0 (∀ x, x < a + 1 → s.1 x = true) := fun u => tf.zero (fun z => by
        rcases u with v | v
        · exact v (fun x hx => z x (by omega))
        · rw [z a (by omega)] at v; cases v)
      refine rX8_makeTree_167 h (fun _ _ => va) (fun z => absurd z hle) (fun _ u => ?_) (fun _ u u2 => ?_) (fun _ u u2 => ?_)
      · refine rX8_makeTree_193 h ?_
        rw [hnn]
        exact down 0 (allno (Or.inl (q1.no u))) n m3 (Nat.le_refl _) q2 q3' (r3a m3 m82) q4
      · rw [da, dp1] at u2
        refine rX8_makeTree_193 h ?_
        rw [hnn]
        exact down 0 (allno (Or.inr u2)) n m3 (Nat.le_refl _) q2 q3' (r3a m3 m82) q4
      · rw [da, dp1] at u2
        rw [hnn]
        refine down 1 (tf.one (fun x hx => ?_)) n m3 (Nat.le_refl _) q2 q3' (r3a m3 m82) q4
        rcases Nat.lt_or_ge x a with v | v
        · exact q1.yes u x v
        · rw [show x = a by omega]; simpa using u2
  -- layers
  have layers : 0 < n → ∀ (w d : Nat) (s : TS) (m3 : jM), d + w = n → GI lk n (allN n) 0 d s → s.1 = rch lk n d → (∀ x, x < n → m3 83 x = dpI s x) → (∀ x, x < n → m3 82 x = -1) → SmR [82, 83] [] mu m3 → gIt lk n (allN n) w d s = gIt lk n (allN n) n 0 (gInit 0) → J l G X Q0 6 48 [.ref 58, .int (nI d), .float 0, .float 0, .float 0, .float 0] [] m3 0 := by
    intro h0 w
    induction w with
    | zero =>
      intro d s m3 hd q1 q2 q3 q4 q5 q6
      have hdn : d = n := by omega
      subst hdn
      have hle : m3 58 1 ≤ nI d := by rw [q5.2 1 (by simp), hN.1]; exact Int32.le_refl _
      refine rX8_makeTree_48 h (fun _ => ?_) (fun z => absurd hle z)
      have hTs : tsEq T s := by
        rw [hT, show s = gIt lk d (allN d) d 0 (gInit 0) from q6]
        exact growA_it hok d 0 (gInit 0)
      exact par3 s h0 q1 q2 hTs d 0 1 m3 (by omega) (tf.one (fun x hx => absurd hx (by omega))) q3 (fun x hx => by rw [if_neg (by omega)]; exact q4 x hx) q5
    | succ w ih =>
      intro d s m3 hd q1 q2 q3 q4 q5 q6
      have hle : ¬ m3 58 1 ≤ nI d := by rw [q5.2 1 (by simp), hN.1]; exact nI_ge (by omega) (by omega)
      refine rX8_makeTree_48 h (fun z => absurd z hle) (fun _ => ?_)
      have hdn : ∀ x, s.1 x = true → s.2.2.2 x ≤ d := q1.2.2.2.1
      -- one end looks at the other
      have look : ∀ (F : NS) (a b : Nat) (m4 : jM), a < n → b < n → b ∈ nbl lk a → (∀ x, F x = true → lyr lk n (allN n) s.1 x = true) → (∀ x, x < n → m4 83 x = if s.1 x then nI (s.2.2.2 x) else if F x then nI (d + 1) else -1) →
          (m4 83 a = nI d ↔ s.2.1 a = true) ∧ (m4 83 b = -1 ↔ s.1 b = false ∧ F b = false) := by
        intro F a b m4 ha hb hab hF hm
        constructor
        · rw [hm a ha, q1.2.2.1]
          by_cases z : s.1 a = true
          · have := hdn a z
            rw [if_pos z, nI_eq (by omega) (by omega)]
            exact ⟨fun u => ⟨z, u⟩, fun u => u.2⟩
          · rw [if_neg z]
            by_cases zf : F a = true
            · rw [if_pos zf, nI_eq (by omega) (by omega)]
              exact ⟨fun u => absurd u (by omega), fun u => absurd u.1 z⟩
            · rw [if_neg zf]
              exact ⟨fun u => absurd (by rw [← u]; decide) (nI_pos (n := d) (by omega)), fun u => absurd u.1 z⟩
        · rw [hm b hb]
          by_cases z : s.1 b = true
          · have := hdn b z
            rw [if_pos z]
            exact ⟨fun u => absurd (by rw [u]; decide) (nI_pos (n := s.2.2.2 b) (by omega)), fun u => by rw [z] at u; cases u.1⟩
          · rw [if_neg z]
            by_cases zf : F b = true
            · rw [if_pos zf]
              exact ⟨fun u => absurd (by rw [u]; decide) (nI_pos (n := d + 1) (by omega)), fun u => by rw [zf] at u; cases u.2⟩
            · rw [if_neg zf]
              exact ⟨fun _ => ⟨by simpa using z, by simpa using zf⟩, fun _ => rfl⟩
      have links : ∀ (w k : Nat) (F : NS) (m4 : jM), k + w = lk.length → (∀ x, F x = true → lyr lk n (allN n) s.1 x = true) → (∀ i e, i < k → lk[i]? = some e → (s.2.1 e.1 = true → s.1 e.2 = false → F e.2 = true) ∧ (s.2.1 e.2 = true → s.1 e.1 = false → F e.1 = true)) → (∀ x, x < n → m4 83 x = if s.1 x then nI (s.2.2.2 x) else if F x then nI (d + 1) else -1) → (∀ x, x < n → m4 82 x = -1) → SmR [82, 83] [] mu m4 →
          J l G X Q0 6 58 [.ref 58, .int (nI d), .int (nI k), .float 0, .float 0, .float 0] [] m4 0 := by
        intro w2
        induction w2 with
        | zero =>
          intro k F m4 hk r1 r2 r3 r4 r5
          have hle : m4 58 2 ≤ nI k := by rw [r5.2 2 (by simp), hN.2.1]; exact nI_le (by omega) (by omega)
          refine rX8_makeTree_58 h (fun _ => ?_) (fun z => absurd hle z)
          rw [nI_1]
          have hFl : ∀ x, F x = lyr lk n (allN n) s.1 x := fun x => by
            rcases Bool.eq_false_or_eq_true (lyr lk n (allN n) s.1 x) with z | z
            · rw [z]
              obtain ⟨z1, z2, y, z3, z4, z5⟩ := (q1.next).mp z
              have hxy : y ≠ x := (hok.nb z5).2.2
              obtain ⟨i, e, he, hm⟩ := (nbl_mt hxy).mp z5
              have hi := (List.getElem?_eq_some_iff.mp he).1
              obtain ⟨g1, g2⟩ := r2 i e (by omega) he
              unfold mt at hm
              simp at hm
              rcases hm with ⟨u1, u2⟩ | ⟨u1, u2⟩
              · have := g1 (by rw [u1]; exact z4) (by rw [u2]; exact z1)
                rw [u2] at this; exact this
              · have := g2 (by rw [u2]; exact z4) (by rw [u1]; exact z1)
                rw [u1] at this; exact this
            · rw [z]
              rcases Bool.eq_false_or_eq_true (F x) with u | u
              · rw [r1 x u] at z; cases z
              · exact u
          refine J_forget 2 (ih (d + 1) (gStep lk n (allN n) d s) m4 (by omega) (q1.step hok) ?_ (fun x hx => ?_) r4 r5 q6)
          · show (fun x => s.1 x || lyr lk n (allN n) s.1 x) = _
            rw [lyr_all hok, q2]; rfl
          · rw [r3 x hx]
            unfold dpI
            show _ = if (s.1 x || lyr lk n (allN n) s.1 x) = true then nI (if lyr lk n (allN n) s.1 x = true then d + 1 else s.2.2.2 x) else -1
            rw [← hFl x]
            by_cases z : s.1 x = true
            · have : F x = false := by
                rcases Bool.eq_false_or_eq_true (F x) with u | u
                · have := (lyr_iff.mp (r1 x u)).1; rw [z] at this; cases this
                · exact u
              rw [if_pos z, if_pos (by rw [z]; rfl), this]; rfl
            · have zf : s.1 x = false := by simpa using z
              rw [if_neg z, zf, Bool.false_or]
              by_cases u : F x = true
              · rw [if_pos u, if_pos u, if_pos u]
              · rw [if_neg u, if_neg u]
        | succ w2 ih2 =>
          intro k F m4 hk r1 r2 r3 r4 r5
          have hkl : k < lk.length := by omega
          have hle : ¬ m4 58 2 ≤ nI k := by rw [r5.2 2 (by simp), hN.2.1]; exact nI_ge (by omega) (by omega)
          obtain ⟨e, he⟩ : ∃ e, lk[k]? = some e := ⟨lk[k], List.getElem?_eq_getElem hkl⟩
          have hend := hok.2.2.1 e (List.mem_of_getElem? he)
          have ck : (nI k).toNatClampNeg = k := nI_clamp (by omega)
          have vk : vp_in (nI k) 60 := vp_in_nI (by omega) (by omega)
          have n12 : e.2 ∈ nbl lk e.1 := (nbl_mt hend.2.2).mpr ⟨k, e, he, by unfold mt; simp⟩
          have n21 : e.1 ∈ nbl lk e.2 := (nbl_sym hok).mp n12
          refine rX8_makeTree_58 h (fun z => absurd z hle) (fun _ => ?_)
          -- a side
          have side : ∀ (F : NS) (sd a b : Nat) (m5 : jM) (K : List Value → Prop), a < n → b < n → a ≠ b → b ∈ nbl lk a → (∀ x, F x = true → lyr lk n (allN n) s.1 x = true) → (∀ x, x < n → m5 83 x = if s.1 x then nI (s.2.2.2 x) else if F x then nI (d + 1) else -1) → (∀ x, x < n → m5 82 x = -1) → SmR [82, 83] [] mu m5 → sd < 2 → (if e.1 = a then e.2 else e.1) = b →
              (∀ (F2 : NS) (m6 : jM), (∀ x, F2 x = true → lyr lk n (allN n) s.1 x = true) → (∀ x, F x = true → F2 x = true) → (s.2.1 a = true → s.1 b = false → F2 b = true) → (∀ x, x < n → m6 83 x = if s.1 x then nI (s.2.2.2 x) else if F2 x then nI (d + 1) else -1) → (∀ x, x < n → m6 82 x = -1) → SmR [82, 83] [] mu m6 → J l G X Q0 6 68 [.ref 58, .int (nI d), .int (nI k), .int (nI (sd + 1)), .float 0, .float 0] [] m6 0) →
              J l G X Q0 6 98 [.ref 58, .int (nI d), .int (nI k), .int (nI sd), .int (nI a), .float 0] [.int (nI a), .int (nI k), .ref 58] m5 0 := by
            intro F sd a b m5 K ha hb hab hnb g1 g2 g3 g4 hsd hoth kk
            have N5 := hN.same g4 (by decide) (by decide)
            refine rX8_makeTree_98 h (k_otherEnd hl hG hok N5.2.2.1 he (by omega)) (by decide) (Nat.zero_le _) (fun v m6 e6 => ?_)
            obtain ⟨rfl, rfl⟩ := e6
            rw [hoth]
            have va : vp_in (nI a) 24 := vp_in_nI (by omega) (by omega)
            have vb : vp_in (nI b) 24 := vp_in_nI (by omega) (by omega)
            have ca : (nI a).toNatClampNeg = a := nI_clamp (by omega)
            have cb : (nI b).toNatClampNeg = b := nI_clamp (by omega)
            obtain ⟨lk1, lk2⟩ := look F a b m6 ha hb hnb g1 g2
            have hw : wr m6 83 (nI b).toNatClampNeg (m6 83 (nI b).toNatClampNeg) = m6 := by
              unfold wr
              rw [show upd (m6 83) (nI b).toNatClampNeg (m6 83 (nI b).toNatClampNeg) = m6 83 from (by
                funext j
                unfold upd
                split
                · next z => rw [z]
                · rfl)]
              exact put_self m6 83
            refine rX8_makeTree_101 h va (fun _ => vb) (fun _ => vb) (fun _ => vb) (fun _ _ => vb) (fun _ _ => vb) (fun _ _ => vb) (fun u => ?_) (fun u u2 => ?_) (fun u u2 => ?_)
            · rw [ca, lk1] at u
              rw [hw, nI_1]
              exact J_forget 4 (J_forget 5 (kk F m6 g1 (fun _ z => z) (fun z => absurd z u) g2 g3 g4))
            · rw [ca, lk1] at u
              rw [cb, lk2] at u2
              rw [hw, nI_1]
              refine J_forget 4 (J_forget 5 (kk F m6 g1 (fun _ z => z) (fun _ z => ?_) g2 g3 g4))
              rcases Bool.eq_false_or_eq_true (F b) with v | v
              · exact v
              · exact absurd ⟨z, v⟩ u2
            · rw [ca, lk1] at u
              rw [cb, lk2] at u2
              rw [cb, nI_1, nI_1]
              have hlb : lyr lk n (allN n) s.1 b = true := (q1.next).mpr ⟨u2.1, by unfold allN; simpa using hb, a, ha, u, hnb⟩
              refine J_forget 4 (J_forget 5 (kk (fun x => F x || x == b) _ (fun x hx => ?_) (fun x hx => by rw [hx]; rfl) (fun _ _ => by simp) (fun x hx => ?_) g3 (g4.trans' (SmR.wr (by decide) (by decide)))))
              · rw [Bool.or_eq_true, beq_iff_eq] at hx
                rcases hx with z | z
                · exact g1 x z
                · rw [z]; exact hlb
              · show (if x = b then nI (d + 1) else m6 83 x) = _
                by_cases z : x = b
                · subst z
                  rw [if_pos rfl, if_neg (by rw [u2.1]; decide), if_pos (by simp)]
                · rw [if_neg z, g2 x hx]
                  simp [z]
          have r59 : ∀ m5 : jM, SmR [82, 83] [] mu m5 → m5 59 (nI k).toNatClampNeg = nI e.1 ∧ m5 60 (nI k).toNatClampNeg = nI e.2 := fun m5 g => by
            rw [ck]
            exact (hN.same g (by decide) (by decide)).2.2.1 k e he
          refine rX8_makeTree_68 h (fun z1 z2 => absurd rfl z2) (fun _ _ => vk) (fun z => absurd z (by decide)) (fun z1 z2 => absurd rfl z2) (fun _ _ => ?_)
          rw [(r59 m4 r5).1]
          refine side F 0 e.1 e.2 m4 (fun _ => True) hend.1 hend.2.1 hend.2.2 n12 r1 r3 r4 r5 (by omega) (if_pos rfl) (fun F2 m6 f1 f2 f3 f4 f5 f6 => ?_)
          refine rX8_makeTree_68 h (fun _ _ => vk) (fun z1 z2 => absurd z2 (by decide)) (fun z => absurd z (by decide)) (fun _ _ => ?_) (fun z1 z2 => absurd z2 (by decide))
          rw [(r59 m6 f6).2]
          refine side F2 1 e.2 e.1 m6 (fun _ => True) hend.2.1 hend.1 (fun z => hend.2.2 z.symm) n21 f1 f4 f5 f6 (by omega) (if_neg hend.2.2) (fun F3 m7 j1 j2 j3 j4 j5 j6 => ?_)
          refine rX8_makeTree_68 h (fun z1 => absurd (by decide) z1) (fun z1 => absurd (by decide) z1) (fun _ => ?_) (fun z1 => absurd (by decide) z1) (fun z1 => absurd (by decide) z1)
          rw [nI_1]
          refine J_forget 3 (ih2 (k + 1) F3 m7 (by omega) j1 (fun i e' hi he' => ?_) j4 j5 j6)
          rcases Nat.lt_or_ge i k with z | z
          · obtain ⟨g1, g2⟩ := r2 i e' z he'
            exact ⟨fun u1 u2 => j2 _ (f2 _ (g1 u1 u2)), fun u1 u2 => j2 _ (f2 _ (g2 u1 u2))⟩
          · have : i = k := by omega
            subst this
            rw [he] at he'
            have := Option.some.inj he'
            subst this
            exact ⟨fun u1 u2 => j2 _ (f3 u1 u2), j3⟩
      refine links lk.length 0 (fun _ => false) m3 (by omega) (fun x hx => by cases hx) (fun i e hi => absurd hi (by omega)) (fun x hx => ?_) q4 q5
      rw [q3 x hx]
      unfold dpI
      by_cases z : s.1 x = true
      · rw [if_pos z, if_pos z]
      · rw [if_neg z, if_neg z]; rfl
  have init : ∀ (w a : Nat) (m3 : jM), a + w = n → (∀ x, x < a → m3 83 x = -1 ∧ m3 82 x = -1) → SmR [82, 83] [] mu m3 → J l G X Q0 6 2 [.ref 58, .int (nI a), .float 0, .float 0, .float 0, .float 0] [] m3 0 := by
    intro w
    induction w with
    | zero =>
      intro a m3 ha q1 q2
      have han : a = n := by omega
      subst han
      have hle : m3 58 1 ≤ nI a := by rw [q2.2 1 (by simp), hN.1]; exact Int32.le_refl _
      have h1 : m3 58 1 = nI a := by rw [q2.2 1 (by simp), hN.1]
      refine rX8_makeTree_2 h (fun z => absurd hle z) (fun z => absurd hle z) (fun _ u => ?_) (fun _ u => ?_) (fun z => absurd hle z)
      · have h0 : 0 < a := Nat.pos_of_ne_zero (fun z => u (by rw [h1, z]; rfl))
        refine layers h0 a 0 (gInit 0) _ (by omega) (GI.init _ h0) (by funext x; rfl) (fun x hx => ?_) (fun x hx => (q1 x hx).2) (q2.trans' (SmR.wr (by decide) (by decide))) rfl
        show (if x = (0 : Int32).toNatClampNeg then 0 else m3 83 x) = _
        rw [show (0 : Int32).toNatClampNeg = 0 from rfl]
        unfold dpI
        show _ = if (x == 0) = true then _ else _
        by_cases z : x = 0
        · simp [z, gInit]; rfl
        · rw [if_neg z, if_neg (by simpa using z)]; exact (q1 x hx).1
      · rw [h1] at u
        have h0 : a = 0 := (nI_eq (b := 0) (by omega) (by omega)).mp u
        exact no m3 _ 38 dX8_makeTree_38 (fun z => by have := z.1; omega) q2
    | succ w ih =>
      intro a m3 ha q1 q2
      have hle : ¬ m3 58 1 ≤ nI a := by rw [q2.2 1 (by simp), hN.1]; exact nI_ge (by omega) (by omega)
      refine rX8_makeTree_2 h (fun _ => vp_in_nI (by omega) (by omega)) (fun _ => vp_in_nI (by omega) (by omega)) (fun z => absurd z hle) (fun z => absurd z hle) (fun _ => ?_)
      rw [nI_clamp (by omega), nI_1]
      refine ih (a + 1) _ (by omega) (fun x hx => ?_) (q2.trans' ((SmR.wr (by decide) (by decide)).trans' (SmR.wr (by decide) (by decide))))
      show (if x = a then -1 else m3 83 x) = -1 ∧ (if x = a then -1 else m3 82 x) = -1
      by_cases z : x = a
      · rw [if_pos z, if_pos z]; exact ⟨rfl, rfl⟩
      · rw [if_neg z, if_neg z]; exact q1 x (by omega)
  exact init n 0 mu (by omega) (fun x hx => absurd hx (by omega)) SmR.rfl'
end C51
