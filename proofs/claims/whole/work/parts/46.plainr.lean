/-! ===== the reference's plain run ===== -/
theorem nI_mod2 : ∀ k, k < 1024 → nI k - (nI k / 2) * 2 = nI (k % 2) := by decide +kernel
theorem nar_b {x : Int32} {c : Prop} [Decidable c] (h : x = if c then 1 else 0) : vp_nar .boolean x = if c then 1 else 0 := by
  rw [h]
  split <;> rfl
theorem dlvT_other {lk : Lk} {a q q' : Nat} {sd : Nat → Option Int32} {m : Nat} {bx : Bx} (h : q' ≠ q) : dlvT lk a q sd m bx q' = bx q' := by
  funext b p
  unfold dlvT
  rw [if_neg (fun z => h z.1)]
theorem bxClr_other {bx : Bx} {q b q' b' : Nat} (h : q' ≠ q ∨ b' ≠ b) : bxClr bx q b q' b' = bx q' b' := by
  funext p
  unfold bxClr
  rw [if_neg (fun z => by rcases h with w | w <;> grind)]
/-- what a round used is gone behind it -/
theorem plRound_clr {lk : Lk} {pr : List Wd} {k : Nat} (hk : 1 ≤ k) : ∀ (m a : Nat) (s : PS), (∀ b p, b < a → s.2 ((k - 1) % 2) b p = none) → ∀ b p, b < a + m → (plRound lk pr k m a s).2 ((k - 1) % 2) b p = none
  | 0, a, s, h, b, p, hb => h b p (by omega)
  | m + 1, a, s, h, b, p, hb => by
    unfold plRound
    refine plRound_clr hk m (a + 1) _ (fun b p hb => ?_) b p (by omega)
    unfold plStep
    show dlvT _ _ _ _ _ _ ((k - 1) % 2) b p = none
    rw [dlvT_other (by omega)]
    unfold bxClr
    by_cases z : b = a
    · rw [if_pos ⟨rfl, z⟩]
    · rw [if_neg (fun w => z w.2)]; exact h b p (by omega)
section C46
variable {l : Launch} {G : jG} {mu : jM}
theorem k_plainRound (hl : l.stackTraces = false) (hG : jGok G) {n : Nat} {lk : Lk} (hok : NetOk n lk) (hN : NetR n lk mu) {pr : List Wd} (hP : ProgR pr mu) (hlen : pr.length ≤ 64) (hv : Valid pr) {k : Nat} (hk1 : 1 ≤ k) (hk2 : k < 1000) {s : PS} (hR : ∀ j, j < 192 → mu 64 j = s.1 j) (hB : BoxR 91 92 lk ((k - 1) % 2) (fun b => b < n) s.2 mu) (h0 : ∀ b p, b < n → s.2 (k % 2) b p = none) :
    jCv l G yX8_plainRound cX8_plainRound 8 5 [.ref 58, .int (nI k)] mu (fun mu' => (∀ j, j < 192 → mu' 64 j = (plRound lk pr k n 0 s).1 j) ∧ BoxR 91 92 lk (k % 2) (fun b => b < n) (plRound lk pr k n 0 s).2 mu' ∧ SmR [64, 66, 67, 68, 69, 70, 91, 92] [] mu mu') := by
  refine jCv.of (pad := 6) hl hG (by decide) (Nat.le_of_ble_eq_true rfl) (fun X h => ?_)
  show J l G X _ 8 0 [.ref 58, .int (nI k), .float 0, .float 0, .float 0, .float 0, .float 0, .float 0] [] mu 0
  refine rX8_plainRound_0 h ?_
  rw [nI_mod2 k (by omega), nL120, nI_mul, nI_sub (by omega), show 120 - 120 * (k % 2) = 120 * ((k - 1) % 2) by omega]
  obtain ⟨now, hnow⟩ : ∃ q, q = k % 2 := ⟨_, rfl⟩
  obtain ⟨bef, hbef⟩ : ∃ q, q = (k - 1) % 2 := ⟨_, rfl⟩
  have hnb : now ≠ bef ∧ now < 2 ∧ bef < 2 := by omega
  have hn24 := hok.1
  generalize hW : ([64, 66, 67, 68, 69, 70, 91, 92] : List Nat) = W at *
  have fin : ∀ (m3 : jM) (s1 : PS), (∀ j, j < 192 → m3 64 j = s1.1 j) → BoxR 91 92 lk now (fun b => b < n) s1.2 m3 → SmR W [] mu m3 → s1 = plRound lk pr k n 0 s → ∀ ls, J l G X (jRv G X (fun mu' => (∀ j, j < 192 → mu' 64 j = (plRound lk pr k n 0 s).1 j) ∧ BoxR 91 92 lk (k % 2) (fun b => b < n) (plRound lk pr k n 0 s).2 mu' ∧ SmR W [] mu mu')) 8 293 ls [] m3 0 := by
    intro m3 s1 q1 q2 q3 q4 ls
    exact J_vret h dX8_plainRound_293 (by rw [← q4, ← hnow]; exact ⟨q1, q2, q3⟩)
  revert fin
  generalize jRv G X (fun mu' => (∀ j, j < 192 → mu' 64 j = (plRound lk pr k n 0 s).1 j) ∧ BoxR 91 92 lk (k % 2) (fun b => b < n) (plRound lk pr k n 0 s).2 mu' ∧ SmR W [] mu mu') = Q0
  intro fin
  rw [← hnow, ← hbef]
  rw [← hbef] at hB
  rw [← hnow] at h0
  have w64 : 64 ∈ W := by rw [← hW]; decide
  have w66 : 66 ∈ W := by rw [← hW]; decide
  have w67 : 67 ∈ W := by rw [← hW]; decide
  have w68 : 68 ∈ W := by rw [← hW]; decide
  have w69 : 69 ∈ W := by rw [← hW]; decide
  have w70 : 70 ∈ W := by rw [← hW]; decide
  have w91 : 91 ∈ W := by rw [← hW]; decide
  have w92 : 92 ∈ W := by rw [← hW]; decide
  have sm3 : ∀ {x y : jM}, SmR [66, 69, 70] [] x y → SmR W [] x y := fun z => z.wide (by intro c hc; simp at hc; rcases hc with rfl | rfl | rfl; exact w66; exact w69; exact w70) (fun c hc => by simp at hc)
  have nwall : W.all (fun c => decide (c < 59 ∨ 62 < c)) = true := by rw [← hW]; decide
  have pwall : W.all (fun c => decide (c ≠ 65)) = true := by rw [← hW]; decide
  have nodes : ∀ (w a : Nat) (s1 : PS) (m3 : jM), a + w = n → (∀ j, j < 192 → m3 64 j = s1.1 j) → BoxR 91 92 lk now (fun b => b < n) s1.2 m3 → BoxR 91 92 lk bef (fun b => a ≤ b ∧ b < n) s1.2 m3 → SmR W [] mu m3 → plRound lk pr k w a s1 = plRound lk pr k n 0 s →
      J l G X Q0 8 41 [.ref 58, .int (nI k), .int (nI (120 * now)), .int (nI (120 * bef)), .int (nI a), .float 0, .float 0, .float 0] [] m3 0 := by
    intro w
    induction w with
    | zero =>
      intro a s1 m3 ha q1 q2 q3 q4 q5
      have hle : m3 58 1 ≤ nI a := by rw [q4.2 1 (by simp), hN.1]; exact nI_le (by omega) (by omega)
      exact rX8_plainRound_41 h (fun _ => fin m3 s1 q1 q2 q4 q5 _) (fun z => absurd hle z)
    | succ w ih =>
      intro a s1 m3 ha q1 q2 q3 q4 q5
      have ha24 : a < 24 := by omega
      have han : a < n := by omega
      have hle : ¬ m3 58 1 ≤ nI a := by rw [q4.2 1 (by simp), hN.1]; exact nI_ge (by omega) (by omega)
      refine rX8_plainRound_41 h (fun z => absurd z hle) (fun _ => ?_)
      have hca : (nI a).toNatClampNeg = a := nI_clamp (by omega)
      have np24 := nbl24 hok a
      have hnpl : (nbl lk a).length = (pll lk a).length := by rw [nbl_eq hok, List.length_map]
      obtain ⟨E, hE⟩ : ∃ E, E = envOf lk k a s1.2 := ⟨_, rfl⟩
      obtain ⟨x, hx⟩ : ∃ x, x = exAt lk pr k a s1 := ⟨_, rfl⟩
      obtain ⟨s2, hs2⟩ : ∃ s2, s2 = plStep lk pr k a s1 := ⟨_, rfl⟩
      obtain ⟨b0, hb0⟩ : ∃ b0, b0 = bxClr s1.2 bef a := ⟨_, rfl⟩
      have es2 : s2 = (rgSet s1.1 a x.1, dlvT lk a now x.2 (nbl lk a).length b0) := by rw [hs2, hb0, hx, hnow, hbef]; rfl
      rw [show plRound lk pr k (w + 1) a s1 = plRound lk pr k w (a + 1) (plStep lk pr k a s1) from rfl, ← hs2] at q5
      -- what goes out
      have pass : ∀ (m p : Nat) (m4 : jM), p + m = (nbl lk a).length → (∀ j, j < 192 → m4 64 j = s2.1 j) → BoxR 91 92 lk now (fun b => b < n) (dlvT lk a now x.2 p b0) m4 → BoxR 91 92 lk bef (fun b => a + 1 ≤ b ∧ b < n) (dlvT lk a now x.2 p b0) m4 → (∀ p, p < 24 → m4 69 p = if (x.2 p).isSome then 1 else 0) → (∀ p v, p < 24 → x.2 p = some v → m4 70 p = v) → SmR W [] mu m4 →
          J l G X Q0 8 204 [.ref 58, .int (nI k), .int (nI (120 * now)), .int (nI (120 * bef)), .int (nI a), .int (nI p), .float 0, .float 0] [] m4 0 := by
        intro m
        induction m with
        | zero =>
          intro p m4 hp r1 r2 r3 r4 r5 r6
          have N4 := hN.same r6 nwall (by decide)
          have hpe : p = (nbl lk a).length := by omega
          have hle : m4 61 (nI a).toNatClampNeg ≤ nI p := by rw [hca, (N4.2.2.2 a ha24).1, ← hnpl]; exact nI_le (by omega) (by omega)
          refine rX8_plainRound_204 h (vp_in_nI ha24 (by omega)) (fun z => absurd hle z) (fun _ => ?_) (fun z => absurd hle z)
          rw [nI_1]
          subst hpe
          refine J_forget 5 (ih (a + 1) s2 m4 (by omega) r1 ?_ ?_ r6 q5)
          · rw [es2]; exact r2
          · rw [es2]; exact r3
        | succ m ihm =>
          intro p m4 hp r1 r2 r3 r4 r5 r6
          have N4 := hN.same r6 nwall (by decide)
          have hle : ¬ m4 61 (nI a).toNatClampNeg ≤ nI p := by rw [hca, (N4.2.2.2 a ha24).1, ← hnpl]; exact nI_ge (by omega) (by omega)
          obtain ⟨b, hb⟩ : ∃ b, (nbl lk a)[p]? = some b := ⟨_, List.getElem?_eq_getElem (by omega : p < (nbl lk a).length)⟩
          obtain ⟨lp, e, hlp, he, hmt, -, hbn, -⟩ := port_nb hok hb
          obtain ⟨e', he', hll, hend, hother⟩ := port_link hok hlp
          rw [he] at he'
          have := Option.some.inj he'
          subst this
          rw [hb] at hother
          have hother := Option.some.inj hother
          have c1 : 24 * nI a + nI p = nI (24 * a + p) := by rw [nL24, nI_mul, nI_add]
          have k1 : (nI (24 * a + p)).toNatClampNeg = 24 * a + p := nI_clamp (by omega)
          refine rX8_plainRound_204 h (vp_in_nI ha24 (by omega)) (fun _ => by rw [c1]; exact vp_in_nI (by omega) (by omega)) (fun z => absurd z hle) (fun _ => ?_)
          rw [c1, k1, (N4.2.2.2 a ha24).2 p lp hlp]
          refine rX8_plainRound_240 h (k_otherEnd hl hG hok N4.2.2.1 he ha24) (by decide) (Nat.zero_le _) (fun v m5 e1 => ?_)
          obtain ⟨rfl, rfl⟩ := e1
          rw [← hother]
          refine rX8_plainRound_243 h (k_towards hl hG hok N4.2.2.1 he (by omega : b < 24)) (by decide) (Nat.zero_le _) (fun v m6 e1 => ?_)
          obtain ⟨rfl, rfl⟩ := e1
          have hdr := dr_lt hok b hll
          have c2 : nI (120 * now) + nI (dr lk lp b) = nI (120 * now + dr lk lp b) := nI_add _ _
          have k2 : (nI (120 * now + dr lk lp b)).toNatClampNeg = 120 * now + dr lk lp b := nI_clamp (by omega)
          have kp : (nI p).toNatClampNeg = p := nI_clamp (by omega)
          have hds := dlvT_succ hok now x.2 b0 hb
          have vd : vp_in (nI (120 * now) + nI (dr lk lp b)) 240 := by rw [c2]; exact vp_in_nI (by omega) (by omega)
          have vq : vp_in (nI p) 24 := vp_in_nI (by omega) (by omega)
          refine rX8_plainRound_246 h vq (fun _ => vd) (fun _ => vq) (fun _ => vd) (fun q => ?_) (fun q => ?_)
          · rw [kp, r4 p (by omega)] at q
            refine rX8_plainRound_281 h ?_
            rw [nI_1]
            have hsd : x.2 p = none := by
              cases hq : x.2 p with
              | none => rfl
              | some v => rw [hq] at q; simp at q
            rw [hsd] at hds
            exact J_forget 6 (J_forget 7 (ihm (p + 1) m6 (by omega) r1 (by rw [hds]; exact r2) (by rw [hds]; exact r3) r4 r5 r6))
          · rw [kp, r4 p (by omega)] at q
            refine rX8_plainRound_281 h ?_
            rw [nI_1, c2, k2, kp]
            obtain ⟨v, hsd⟩ : ∃ v, x.2 p = some v := by
              cases hq : x.2 p with
              | none => rw [hq] at q; exact absurd rfl q
              | some v => exact ⟨v, rfl⟩
            rw [r5 p v (by omega) hsd]
            rw [hsd] at hds
            have hlb := link_back hok hb hlp
            refine J_forget 6 (J_forget 7 (ihm (p + 1) _ (by omega) r1 ?_ ?_ r4 r5 (r6.trans' ((SmR.wr w91 (by decide)).trans' (SmR.wr w92 (by decide))))))
            · rw [hds]; exact r2.setO hok v hlb rfl rfl
            · rw [hds]; exact r3.setO hok v hlb rfl rfl
      -- registers back
      have back : ∀ (m r : Nat) (m4 : jM), r + m = 8 → (∀ j, j < 192 → m4 64 j = if a * 8 ≤ j ∧ j < a * 8 + r then x.1 (j - a * 8) else s1.1 j) → (∀ r, r < 8 → m4 66 r = x.1 r) → BoxR 91 92 lk now (fun b => b < n) s1.2 m4 → BoxR 91 92 lk bef (fun b => a ≤ b ∧ b < n) s1.2 m4 → (∀ p, p < 24 → m4 69 p = if (x.2 p).isSome then 1 else 0) → (∀ p v, p < 24 → x.2 p = some v → m4 70 p = v) → SmR W [] mu m4 →
          J l G X Q0 8 168 [.ref 58, .int (nI k), .int (nI (120 * now)), .int (nI (120 * bef)), .int (nI a), .int (nI r), .float 0, .float 0] [] m4 0 := by
        intro m
        induction m with
        | zero =>
          intro r m4 hr r1 r2 r3 r4 r5 r6 r7
          have hle : (8 : Int32) ≤ nI r := nI_le (a := 8) (by omega) (by omega)
          refine rX8_plainRound_168 h (fun z => absurd hle z) (fun z => absurd hle z) (fun _ => ?_) (fun z => absurd hle z)
          refine pass (nbl lk a).length 0 m4 (by omega) (fun j hj => ?_) ?_ ?_ r5 r6 r7
          · rw [r1 j hj, es2, show r = 8 by omega]; rfl
          · rw [dlvT_0, hb0]
            intro b p l b1 b2
            rw [bxClr_other (Or.inl hnb.1)]
            exact r3 b p l b1 b2
          · rw [dlvT_0, hb0]
            intro b p l b1 b2
            rw [bxClr_other (Or.inr (by omega))]
            exact r4 b p l ⟨by omega, b1.2⟩ b2
        | succ m ihm =>
          intro r m4 hr r1 r2 r3 r4 r5 r6 r7
          have hle : ¬ (8 : Int32) ≤ nI r := nI_ge (b := 8) (by omega) (by omega)
          have c1 : 8 * nI a + nI r = nI (8 * a + r) := by rw [nL8, nI_mul, nI_add]
          have k1 : (nI (8 * a + r)).toNatClampNeg = 8 * a + r := nI_clamp (by omega)
          refine rX8_plainRound_168 h (fun _ => vp_in_nI (by omega) (by omega)) (fun _ => by rw [c1]; exact vp_in_nI (by omega) (by omega)) (fun z => absurd z hle) (fun _ => ?_)
          rw [c1, k1, nI_1, nI_clamp (n := r) (by omega), r2 r (by omega)]
          refine ihm (r + 1) _ (by omega) (fun j hj => ?_) r2 r3 r4 r5 r6 (r7.trans' (SmR.wr w64 (by decide)))
          show (if j = 8 * a + r then x.1 r else m4 64 j) = _
          by_cases z : j = 8 * a + r
          · rw [if_pos z, if_pos (by omega), show j - a * 8 = r by omega]
          · rw [if_neg z, r1 j hj]
            by_cases y : a * 8 ≤ j ∧ j < a * 8 + r
            · rw [if_pos y, if_pos (by omega)]
            · rw [if_neg y, if_neg (by omega)]
      -- what came in
      have take : ∀ (m p : Nat) (m4 : jM), p + m = (nbl lk a).length → (∀ j, j < 192 → m4 64 j = s1.1 j) → (∀ r, r < 8 → m4 66 r = s1.1 (a * 8 + r)) → BoxR 91 92 lk now (fun b => b < n) s1.2 m4 → BoxR 91 92 lk bef (fun b => a ≤ b ∧ b < n) s1.2 m4 → (∀ p', p' < p → m4 67 p' = (if (s1.2 bef a p').isSome then 1 else 0) ∧ ∀ v, s1.2 bef a p' = some v → m4 68 p' = v) → SmR W [] mu m4 →
          J l G X Q0 8 89 [.ref 58, .int (nI k), .int (nI (120 * now)), .int (nI (120 * bef)), .int (nI a), .int (nI p), .float 0, .float 0] [] m4 0 := by
        intro m
        induction m with
        | zero =>
          intro p m4 hp r1 r2 r3 r4 r5 r6
          have N4 := hN.same r6 nwall (by decide)
          have P4 := hP.same r6 pwall (by decide)
          have hle : m4 61 (nI a).toNatClampNeg ≤ nI p := by rw [hca, (N4.2.2.2 a ha24).1, ← hnpl]; exact nI_le (by omega) (by omega)
          refine rX8_plainRound_89 h (vp_in_nI ha24 (by omega)) (fun z => absurd hle z) (fun _ => ?_) (fun z => absurd hle z)
          refine rX8_plainRound_162 h (k_doProgram hl hG P4 hv hlen (E := envOf lk k a s1.2) (R := fun r => s1.1 (a * 8 + r)) ha24 (by rw [show (envOf lk k a s1.2).1 = a from rfl, (N4.2.2.2 a ha24).1, ← hnpl]; rfl) np24 r2 (fun p' hp' => by
            have := r5 p' (by have : p' < (nbl lk a).length := hp'; omega)
            rw [hbef] at this
            exact this)) (by decide) (Nat.zero_le _) (fun m5 e1 => ?_)
          refine rX8_plainRound_165 h ?_
          have f64 : m5 64 = m4 64 := e1.2.1 64 (by decide) (by decide)
          have f91 : m5 91 = m4 91 := e1.2.1 91 (by decide) (by decide)
          have f92 : m5 92 = m4 92 := e1.2.1 92 (by decide) (by decide)
          have ex : exec pr (envOf lk k a s1.2) (fun r => s1.1 (a * 8 + r)) = x := by rw [hx]; rfl
          have e11 := e1.1
          rw [ex] at e11
          refine back 8 0 m5 rfl (fun j hj => ?_) e11.1 (r3.congr f91 f92) (r4.congr f91 f92) e11.2.1 e11.2.2.1 (r6.trans' (sm3 e1.2))
          rw [f64, r1 j hj, if_neg (by omega)]
        | succ m ihm =>
          intro p m4 hp r1 r2 r3 r4 r5 r6
          have N4 := hN.same r6 nwall (by decide)
          have hle : ¬ m4 61 (nI a).toNatClampNeg ≤ nI p := by rw [hca, (N4.2.2.2 a ha24).1, ← hnpl]; exact nI_ge (by omega) (by omega)
          obtain ⟨b, hb⟩ : ∃ b, (nbl lk a)[p]? = some b := ⟨_, List.getElem?_eq_getElem (by omega : p < (nbl lk a).length)⟩
          obtain ⟨lp, e, hlp, he, hmt, -, hbn, -⟩ := port_nb hok hb
          have hll := (List.getElem?_eq_some_iff.mp he).1
          have c1 : 24 * nI a + nI p = nI (24 * a + p) := by rw [nL24, nI_mul, nI_add]
          have k1 : (nI (24 * a + p)).toNatClampNeg = 24 * a + p := nI_clamp (by omega)
          refine rX8_plainRound_89 h (vp_in_nI ha24 (by omega)) (fun _ => by rw [c1]; exact vp_in_nI (by omega) (by omega)) (fun z => absurd z hle) (fun _ => ?_)
          rw [c1, k1, (N4.2.2.2 a ha24).2 p lp hlp]
          refine rX8_plainRound_118 h (k_towards hl hG hok N4.2.2.1 he ha24) (by decide) (Nat.zero_le _) (fun v m6 e1 => ?_)
          obtain ⟨rfl, rfl⟩ := e1
          have hdr := dr_lt hok a hll
          have c2 : nI (120 * bef) + nI (dr lk lp a) = nI (120 * bef + dr lk lp a) := nI_add _ _
          have k2 : (nI (120 * bef + dr lk lp a)).toNatClampNeg = 120 * bef + dr lk lp a := nI_clamp (by omega)
          have kp : (nI p).toNatClampNeg = p := nI_clamp (by omega)
          have vd : vp_in (nI (120 * bef) + nI (dr lk lp a)) 240 := by rw [c2]; exact vp_in_nI (by omega) (by omega)
          have vq : vp_in (nI p) 24 := vp_in_nI (by omega) (by omega)
          refine rX8_plainRound_121 h vd vq vd vq ?_
          rw [c2, k2, kp, nI_1]
          obtain ⟨g1, g2⟩ := r4 a p lp ⟨Nat.le_refl _, han⟩ hlp
          refine J_forget 6 (ihm (p + 1) _ (by omega) r1 r2 r3 r4 (fun p' hp' => ?_) (r6.trans' ((SmR.wr w67 (by decide)).trans' (SmR.wr w68 (by decide)))))
          show (if p' = p then vp_nar .boolean (m6 91 (120 * bef + dr lk lp a)) else m6 67 p') = _ ∧ ∀ v, _ → (if p' = p then m6 92 (120 * bef + dr lk lp a) else m6 68 p') = v
          by_cases z : p' = p
          · rw [if_pos z, if_pos z, z]
            exact ⟨nar_b g1, g2⟩
          · rw [if_neg z, if_neg z]
            exact r5 p' (by omega)
      -- registers
      have regs : ∀ (m r : Nat) (m4 : jM), r + m = 8 → (∀ j, j < 192 → m4 64 j = s1.1 j) → (∀ r', r' < r → m4 66 r' = s1.1 (a * 8 + r')) → BoxR 91 92 lk now (fun b => b < n) s1.2 m4 → BoxR 91 92 lk bef (fun b => a ≤ b ∧ b < n) s1.2 m4 → SmR W [] mu m4 →
          J l G X Q0 8 53 [.ref 58, .int (nI k), .int (nI (120 * now)), .int (nI (120 * bef)), .int (nI a), .int (nI r), .float 0, .float 0] [] m4 0 := by
        intro m
        induction m with
        | zero =>
          intro r m4 hr r1 r2 r3 r4 r6
          have hle : (8 : Int32) ≤ nI r := nI_le (a := 8) (by omega) (by omega)
          refine rX8_plainRound_53 h (fun z => absurd hle z) (fun z => absurd hle z) (fun _ => ?_) (fun z => absurd hle z)
          exact take (nbl lk a).length 0 m4 (by omega) r1 (fun r' hr' => r2 r' (by omega)) r3 r4 (fun p' hp' => absurd hp' (by omega)) r6
        | succ m ihm =>
          intro r m4 hr r1 r2 r3 r4 r6
          have hle : ¬ (8 : Int32) ≤ nI r := nI_ge (b := 8) (by omega) (by omega)
          have c1 : 8 * nI a + nI r = nI (8 * a + r) := by rw [nL8, nI_mul, nI_add]
          have k1 : (nI (8 * a + r)).toNatClampNeg = 8 * a + r := nI_clamp (by omega)
          refine rX8_plainRound_53 h (fun _ => by rw [c1]; exact vp_in_nI (by omega) (by omega)) (fun _ => vp_in_nI (by omega) (by omega)) (fun z => absurd z hle) (fun _ => ?_)
          rw [c1, k1, nI_1, nI_clamp (n := r) (by omega), r1 (8 * a + r) (by omega)]
          refine ihm (r + 1) _ (by omega) r1 (fun r' hr' => ?_) r3 r4 (r6.trans' (SmR.wr w66 (by decide)))
          show (if r' = r then s1.1 (8 * a + r) else m4 66 r') = _
          by_cases z : r' = r
          · rw [if_pos z, z, Nat.mul_comm]
          · rw [if_neg z]; exact r2 r' (by omega)
      exact regs 8 0 m3 rfl q1 (fun r' hr' => absurd hr' (by omega)) q2 q3 q4
  have clear : ∀ (m d : Nat) (m3 : jM), d + m = 120 → (∀ e, e < d → m3 91 (120 * now + e) = 0) → (∀ e, e < 120 → m3 91 (120 * bef + e) = mu 91 (120 * bef + e)) → SmR [91] [] mu m3 → J l G X Q0 8 15 [.ref 58, .int (nI k), .int (nI (120 * now)), .int (nI (120 * bef)), .int (nI d), .float 0, .float 0, .float 0] [] m3 0 := by
    intro m
    induction m with
    | zero =>
      intro d m3 hd q1 q2 q3
      have hle : (nI 120) ≤ nI d := nI_le (by omega) (by omega)
      refine rX8_plainRound_15 h (fun z => absurd hle z) (fun _ => ?_) (fun z => absurd hle z)
      have smW : SmR W [] mu m3 := q3.wide (fun c hc => by simp at hc; rw [hc]; exact w91) (fun c hc => by simp at hc)
      refine nodes n 0 s m3 (by omega) (fun j hj => by rw [q3.1 64 (by decide) (by decide)]; exact hR j hj) (fun b p l b1 b2 => ?_) (fun b p l b1 b2 => ?_) smW rfl
      · obtain ⟨e, he, hll, -⟩ := port_link hok b2
        rw [q1 _ (by have := dr_lt hok b hll; omega), h0 b p b1]
        exact ⟨rfl, fun v hv => by cases hv⟩
      · obtain ⟨e, he, hll, -⟩ := port_link hok b2
        rw [q2 _ (dr_lt hok b hll), q3.1 92 (by decide) (by decide)]
        exact hB b p l b1.2 b2
    | succ m ih =>
      intro d m3 hd q1 q2 q3
      have hle : ¬ (nI 120) ≤ nI d := nI_ge (by omega) (by omega)
      refine rX8_plainRound_15 h (fun _ => by rw [nI_add]; exact vp_in_nI (by omega) (by omega)) (fun z => absurd z hle) (fun _ => ?_)
      rw [nI_add, nI_clamp (by omega), nI_1]
      refine ih (d + 1) _ (by omega) (fun e he => ?_) (fun e he => ?_) (q3.trans' (SmR.wr (by decide) (by decide)))
      · show (if 120 * now + e = 120 * now + d then _ else m3 91 (120 * now + e)) = 0
        by_cases z : e = d
        · rw [if_pos (by omega)]; rfl
        · rw [if_neg (by omega)]; exact q1 e (by omega)
      · show (if 120 * bef + e = 120 * now + d then _ else m3 91 (120 * bef + e)) = _
        rw [if_neg (by omega)]; exact q2 e he
  exact clear 120 0 mu rfl (fun e he => absurd he (by omega)) (fun e he => rfl) SmR.rfl'
theorem k_lockstep (hl : l.stackTraces = false) (hG : jGok G) {n : Nat} {lk : Lk} (hok : NetOk n lk) (hN : NetR n lk mu) {pr : List Wd} (hP : ProgR pr mu) (hlen : pr.length ≤ 64) {ok : Bool} (hv : ok = true ↔ Valid pr) (x : Int32) : jCv l G yX8_lockstep cX8_lockstep 3 6 [.ref 58, .int x] mu
    (fun mu' => refX (cdLock ok x) mu mu' ∧ (cdLock ok x = 0 → (∀ j, j < 192 → mu' 64 j = (plRun lk pr n x.toNatClampNeg 1 (mu 63, fun _ _ _ => none)).1 j) ∧ SmR [64, 66, 67, 68, 69, 70, 91, 92] [0] mu mu')) := by
  refine jCv.of (pad := 1) hl hG (by decide) (Nat.le_of_ble_eq_true rfl) (fun X h => ?_)
  show J l G X _ 3 0 [.ref 58, .int x, .float 0] [] mu 0
  have bad : ∀ k : Nat, cdLock ok x = k → k ≠ 0 → ∀ ls, J l G X (jRv G X (fun mu' => refX (cdLock ok x) mu mu' ∧ (cdLock ok x = 0 → (∀ j, j < 192 → mu' 64 j = (plRun lk pr n x.toNatClampNeg 1 (mu 63, fun _ _ _ => none)).1 j) ∧ SmR [64, 66, 67, 68, 69, 70, 91, 92] [0] mu mu'))) 3 39 ls [] (wr mu 58 0 (nI k)) 0 := fun k hk h0 ls => by
    refine J_vret h dX8_lockstep_39 ⟨refX.of hk, fun z => absurd (hk ▸ z) h0⟩
  refine rX8_lockstep_0 h (fun q => ?_) (fun q q2 => ?_) (fun q q2 => ?_)
  · exact bad 1 (by unfold cdLock; rw [if_pos (Or.inl q)]) (by decide) _
  · have ex : cdLock ok x = if ok then 0 else 2 := by unfold cdLock; rw [if_neg (by grind)]
    refine rX8_lockstep_17 h (k_wrongWord hl hG hP hlen) (by decide) (Nat.zero_le _) (fun v m1 e1 => ?_)
    obtain ⟨e1, rfl⟩ := e1
    have hv1 := (e1.ok hlen).2
    refine rX8_lockstep_20 h (fun q3 => ?_) (fun q3 => ?_)
    · have hval := hv1.mp q3
      have hokk : cdLock ok x = 0 := by rw [ex, hv.mpr hval]; rfl
      obtain ⟨R, hR, rfl⟩ := nI_of2 (M := 300) (n := 300) rfl q q2
      rw [nI_clamp (by omega)]
      have fin : ∀ (m3 : jM) (s : PS) ls, (∀ j, j < 192 → m3 64 j = s.1 j) → SmR [64, 66, 67, 68, 69, 70, 91, 92] [0] m1 m3 → m3 58 0 = 0 → s = plRun lk pr n R 1 (m1 63, fun _ _ _ => none) → J l G X (jRv G X (fun mu' => refX (cdLock ok (nI R)) m1 mu' ∧ (cdLock ok (nI R) = 0 → (∀ j, j < 192 → mu' 64 j = (plRun lk pr n R 1 (m1 63, fun _ _ _ => none)).1 j) ∧ SmR [64, 66, 67, 68, 69, 70, 91, 92] [0] m1 mu'))) 3 107 ls [] m3 0 := by
        intro m3 s ls g1 g2 g3 g4
        exact J_vret h dX8_lockstep_107 ⟨⟨by rw [g3, hokk]; rfl, fun z => absurd hokk z⟩, fun _ => ⟨fun j hj => by rw [g1 j hj, g4], g2⟩⟩
      revert fin
      generalize jRv G X (fun mu' => refX (cdLock ok (nI R)) m1 mu' ∧ (cdLock ok (nI R) = 0 → (∀ j, j < 192 → mu' 64 j = (plRun lk pr n R 1 (m1 63, fun _ _ _ => none)).1 j) ∧ SmR [64, 66, 67, 68, 69, 70, 91, 92] [0] m1 mu')) = Q0
      intro fin
      have rounds : ∀ (m k : Nat) (s : PS) (m3 : jM), k + m = R + 1 → 1 ≤ k → (∀ j, j < 192 → m3 64 j = s.1 j) → BoxR 91 92 lk ((k - 1) % 2) (fun b => b < n) s.2 m3 → (∀ b p, b < n → s.2 (k % 2) b p = none) → SmR [64, 66, 67, 68, 69, 70, 91, 92] [0] m1 m3 → m3 58 0 = 0 → plRun lk pr n m k s = plRun lk pr n R 1 (m1 63, fun _ _ _ => none) → J l G X Q0 3 91 [.ref 58, .int (nI R), .int (nI k)] [] m3 0 := by
        intro m
        induction m with
        | zero =>
          intro k s m3 hk hk1 g1 g2 g3 g4 g5 g6
          have hlt : nI R < nI k := nI_lt (by omega) (by omega)
          exact rX8_lockstep_91 h (fun _ => fin m3 s _ g1 g4 g5 g6) (fun z => absurd hlt z)
        | succ m ih =>
          intro k s m3 hk hk1 g1 g2 g3 g4 g5 g6
          have hlt : ¬ nI R < nI k := nI_nlt (by omega) (by omega)
          refine rX8_lockstep_91 h (fun z => absurd z hlt) (fun _ => ?_)
          refine rX8_lockstep_98 h (k_plainRound hl hG hok (hN.same g4 (by decide) (by decide)) (hP.same g4 (by decide) (by decide)) hlen hval hk1 (by omega) g1 g2 g3) (by decide) (Nat.zero_le _) (fun m4 e4 => ?_)
          refine rX8_lockstep_101 h ?_
          rw [nI_1]
          refine ih (k + 1) _ m4 (by omega) (by omega) e4.1 e4.2.1 (fun b p hb => ?_) (g4.trans' (e4.2.2.wide (fun _ z => z) (by simp))) (by rw [e4.2.2.2 0 (by simp)]; exact g5) g6
          rw [show (k + 1) % 2 = (k - 1) % 2 by omega]
          exact plRound_clr hk1 n 0 s (fun b p hb => absurd hb (by omega)) b p (by omega)
      have copy : ∀ (m j : Nat) (m3 : jM), j + m = 192 → (∀ i, i < j → m3 64 i = m1 63 i) → (∀ i, i < 240 → m3 91 i = 0) → SmR [64, 91] [0] m1 m3 → m3 58 0 = 0 → J l G X Q0 3 64 [.ref 58, .int (nI R), .int (nI j)] [] m3 0 := by
        intro m
        induction m with
        | zero =>
          intro j m3 hj g1 g2 g4 g5
          have hle : (192 : Int32) ≤ nI j := nI_le (a := 192) (by omega) (by omega)
          refine rX8_lockstep_64 h (fun z => absurd hle z) (fun z => absurd hle z) (fun _ => ?_) (fun z => absurd hle z)
          refine rounds R 1 (m1 63, fun _ _ _ => none) m3 (by omega) (by omega) (fun i hi => g1 i (by omega)) (fun b p l b1 b2 => ?_) (fun _ _ _ => rfl) (g4.wide (by decide) (by decide)) g5 rfl
          obtain ⟨e, he, hll, -⟩ := port_link hok b2
          rw [g2 _ (by have := dr_lt hok b hll; omega)]
          exact ⟨rfl, fun v hv => by cases hv⟩
        | succ m ih =>
          intro j m3 hj g1 g2 g4 g5
          have hle : ¬ (192 : Int32) ≤ nI j := nI_ge (b := 192) (by omega) (by omega)
          refine rX8_lockstep_64 h (fun _ => vp_in_nI (by omega) (by omega)) (fun _ => vp_in_nI (by omega) (by omega)) (fun z => absurd z hle) (fun _ => ?_)
          rw [nI_clamp (by omega), nI_1]
          refine ih (j + 1) _ (by omega) (fun i hi => ?_) g2 (g4.trans' (SmR.wr (by decide) (by decide))) g5
          show (if i = j then m3 63 j else m3 64 i) = _
          by_cases z : i = j
          · rw [if_pos z, z, g4.1 63 (by decide) (by decide)]
          · rw [if_neg z]; exact g1 i (by omega)
      have clear : ∀ (m j : Nat) (m3 : jM), j + m = 240 → (∀ i, i < j → m3 91 i = 0) → SmR [64, 91] [0] m1 m3 → m3 58 0 = 0 → J l G X Q0 3 42 [.ref 58, .int (nI R), .int (nI j)] [] m3 0 := by
        intro m
        induction m with
        | zero =>
          intro j m3 hj g1 g4 g5
          have hle : (240 : Int32) ≤ nI j := nI_le (a := 240) (by omega) (by omega)
          refine rX8_lockstep_42 h (fun z => absurd hle z) (fun _ => ?_) (fun z => absurd hle z)
          exact copy 192 0 m3 rfl (fun i hi => absurd hi (by omega)) (fun i hi => g1 i (by omega)) g4 g5
        | succ m ih =>
          intro j m3 hj g1 g4 g5
          have hle : ¬ (240 : Int32) ≤ nI j := nI_ge (b := 240) (by omega) (by omega)
          refine rX8_lockstep_42 h (fun _ => vp_in_nI (by omega) (by omega)) (fun z => absurd z hle) (fun _ => ?_)
          rw [nI_clamp (by omega), nI_1]
          refine ih (j + 1) _ (by omega) (fun i hi => ?_) (g4.trans' (SmR.wr (by decide) (by decide))) g5
          show (if i = j then _ else m3 91 i) = 0
          by_cases z : i = j
          · rw [if_pos z]; rfl
          · rw [if_neg z]; exact g1 i (by omega)
      exact clear 240 0 _ rfl (fun i hi => absurd hi (by omega)) (SmR.fld (by decide)) rfl
    · have : ok = false := by cases hb : ok with
        | false => rfl
        | true => exact absurd (hv1.mpr (hv.mp hb)) q3
      exact bad 2 (by rw [ex, this]; rfl) (by decide) _
  · exact bad 1 (by unfold cdLock; rw [if_pos (Or.inr (by grind))]) (by decide) _
end C46
