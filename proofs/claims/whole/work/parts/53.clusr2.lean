/-! ===== the reference's clusters, made ===== -/
section C53
variable {l : Launch} {G : jG} {mu : jM}
theorem k_makeCluster (hl : l.stackTraces = false) (hG : jGok G) {n a p : Nat} {lk : Lk} (hok : NetOk n lk) (hN : NetR n lk mu) (ha : a < n) (hp1 : 2 ≤ p) (hp2 : p ≤ 8) {s : CS} (hI : CI lk n a s) (hR : RC n s mu) (hfa : s.2.1 a = none) : jCv l G yX8_makeCluster cX8_makeCluster 8 3 [.ref 58, .int (nI a), .int (nI p)] mu (fun mu' => RC n (clStep lk n p a s) mu' ∧ SmR [84, 85, 86, 88] [32] mu mu') := by
  refine jCv.of (pad := 5) hl hG (by decide) (Nat.le_of_ble_eq_true rfl) (fun X h => ?_)
  show J l G X _ 8 0 [.ref 58, .int (nI a), .int (nI p), .float 0, .float 0, .float 0, .float 0, .float 0] [] mu 0
  have hn := hok.1
  have h3 := hI.2.2.1
  have va : vp_in (nI a) 24 := vp_in_nI (by omega) (by omega)
  have ca : (nI a).toNatClampNeg = a := nI_clamp (by omega)
  refine rX8_makeCluster_0 h va va va ?_
  rw [ca, hR.1]
  have hfree : ∀ t : TS, ∀ d, GI lk n (frS n s.2.1) a d t → ∀ x, t.1 x = true → s.2.1 x = none := fun t d g x hx => by
    rcases (g.2.1 x hx).2 with z | z
    · rw [z]; exact hfa
    · unfold frS at z; simp at z; exact z.2
  have fin : ∀ (t : TS) (m3 : jM) (x5 : Int32) (d : Nat), GI lk n (frS n s.2.1) a d t → RM n s t m3 → SmR [84, 85, 86, 88] [] mu m3 → t = clT lk n p a s → ∀ x4 : Int32, J l G X (jRv G X (fun mu' => RC n (clStep lk n p a s) mu' ∧ SmR [84, 85, 86, 88] [32] mu mu')) 8 228 [.ref 58, .int (nI a), .int (nI p), .int (nI s.1), .int x4, .int x5, .float 0, .float 0] [] m3 0 := by
    intro t m3 x5 d hg q1 q2 q3 x4
    have hst : clStep lk n p a s = (s.1 + 1, fun x => if t.1 x then some s.1 else s.2.1 x, fun x => if t.1 x then t.2.2.1 x else s.2.2.1 x, fun x => if t.1 x then t.2.2.2 x else s.2.2.2 x) := by
      unfold clStep
      rw [if_neg (by rw [hfa]; decide), q3]
    refine rX8_makeCluster_228 h ?_
    refine J_vret h dX8_makeCluster_238 ⟨?_, (q2.wide (fun _ z => z) (by simp)).trans' (SmR.fld (by decide))⟩
    rw [hst]
    refine ⟨?_, fun x hx => ?_⟩
    · show upd (m3 58) 32 (m3 58 32 + 1) 32 = _
      rw [q1.1, nI_1]; exact if_pos rfl
    · show m3 84 x = parI (if t.1 x = true then some s.1 else s.2.1 x) ∧ ((if t.1 x = true then some s.1 else s.2.1 x).isSome = true → m3 85 x = parI (if t.1 x = true then t.2.2.1 x else s.2.2.1 x) ∧ m3 86 x = nI (if t.1 x = true then t.2.2.2 x else s.2.2.2 x))
      obtain ⟨g1, g2, g3⟩ := q1.2 x hx
      rw [g1]
      by_cases z : t.1 x = true
      · simp only [if_pos z]
        exact ⟨rfl, fun _ => g2 z⟩
      · simp only [if_neg z]
        exact ⟨trivial, fun u => g3 (by simpa using z) u⟩
  revert fin
  generalize jRv G X (fun mu' => RC n (clStep lk n p a s) mu' ∧ SmR [84, 85, 86, 88] [32] mu mu') = Q0
  intro fin
  have loop : ∀ (f d : Nat) (t : TS) (m3 : jM) (x5 : Int32), n + 1 ≤ cnt n t.1 + f → GI lk n (frS n s.2.1) a d t → d ≤ n → RM n s t m3 → SmR [84, 85, 86, 88] [] mu m3 → x5 = nI (cnt n (lyr lk n (frS n s.2.1) t.1)) → (∀ x, x < n → m3 88 x = if lyr lk n (frS n s.2.1) t.1 x then 1 else 0) → d + 1 ≤ cnt n t.1 → growA lk n (frS n s.2.1) (p - 1) f d t = clT lk n p a s →
      J l G X Q0 8 36 [.ref 58, .int (nI a), .int (nI p), .int (nI s.1), .int (nI d), .int x5, .float 0, .float 0] [] m3 0 := by
    intro f
    induction f with
    | zero => intro d t m3 x5 hc; have := cnt_le n t.1; omega
    | succ f ih =>
      intro d t m3 x5 hc hg hd q1 q2 q3 q4 q5 q6
      have N3 := hN.same q2 (by decide) (by decide)
      obtain ⟨hA, hB⟩ := q1.at hn (by omega) hI
      have l1 := cnt_le n (lyr lk n (frS n s.2.1) t.1)
      have l2 := cnt_le n t.1
      obtain ⟨L, hL⟩ : ∃ L, L = lyr lk n (frS n s.2.1) t.1 := ⟨_, rfl⟩
      have stop : stops lk n (frS n s.2.1) (p - 1) t = true → J l G X Q0 8 228 [.ref 58, .int (nI a), .int (nI p), .int (nI s.1), .int (nI d), .int x5, .float 0, .float 0] [] m3 0 := fun z => by
        rw [show growA lk n (frS n s.2.1) (p - 1) (f + 1) d t = (if stops lk n (frS n s.2.1) (p - 1) t then t else growA lk n (frS n s.2.1) (p - 1) f (d + 1) (gStep lk n (frS n s.2.1) d t)) from rfl, if_pos z] at q6
        exact fin t m3 x5 d hg q1 q2 q6 _
      refine rX8_makeCluster_36 h (fun u => stop ?_) (fun u => ?_)
      · rw [q3] at u
        have := (nI_leI (b := 0) (by omega) (by omega)).mp u
        unfold stops
        simp [show cnt n (lyr lk n (frS n s.2.1) t.1) = 0 by omega]
      · rw [q3] at u
        have hne : ¬ cnt n (lyr lk n (frS n s.2.1) t.1) = 0 := fun z => u (by rw [z]; decide)
        refine rX8_makeCluster_48 h (k_sizeOf hl hG hn N3.1 hB) (by decide) (Nat.zero_le _) (fun v m4 e4 => ?_)
        obtain ⟨rfl, rfl⟩ := e4
        have hmul : (p - 1) * cnt n t.1 ≤ 7 * 24 := Nat.mul_le_mul (by omega) (by omega)
        have cm : x5 < (nI p - 1) * nI (cnt n t.1) ↔ cnt n (lyr lk n (frS n s.2.1) t.1) < (p - 1) * cnt n t.1 := by
          rw [q3, nL1, nI_sub (by omega), nI_mul]; exact nI_ltI (by omega) (by omega)
        refine rX8_makeCluster_51 h (fun u2 => stop ?_) (fun u2 => ?_)
        · rw [cm] at u2
          unfold stops
          simp [u2]
        · rw [cm] at u2
          have hns : ¬ stops lk n (frS n s.2.1) (p - 1) t = true := fun z => by
            unfold stops at z
            simp at z
            omega
          rw [show growA lk n (frS n s.2.1) (p - 1) (f + 1) d t = (if stops lk n (frS n s.2.1) (p - 1) t then t else growA lk n (frS n s.2.1) (p - 1) f (d + 1) (gStep lk n (frS n s.2.1) d t)) from rfl, if_neg hns] at q6
          obtain ⟨t2, ht2⟩ : ∃ t2, t2 = gStep lk n (frS n s.2.1) d t := ⟨_, rfl⟩
          have G2 := hg.step hok
          have c2 := cnt_step (d := d) hne
          rw [← ht2] at q6 G2 c2
          have l3 := cnt_le n t2.1
          rw [← hL] at q4
          have e1 : ∀ x, t2.1 x = (t.1 x || L x) := fun x => by rw [ht2, hL]; rfl
          have hLt : ∀ x, L x = true → t.1 x = false := fun x hx => by rw [hL] at hx; exact (lyr_iff.mp hx).1
          have eold : ∀ x, t.1 x = true → t2.2.2.1 x = t.2.2.1 x ∧ t2.2.2.2 x = t.2.2.2 x := fun x hx => by
            have hnl : ¬ lyr lk n (frS n s.2.1) t.1 x = true := fun z => by have := (lyr_iff.mp z).1; rw [hx] at this; cases this
            rw [ht2]; exact ⟨if_neg hnl, if_neg hnl⟩
          have enew : ∀ x, L x = true → t2.2.2.2 x = d + 1 ∧ ∃ y, t2.2.2.1 x = some y ∧ t.1 y = true ∧ t.2.2.2 y = d ∧ x ∈ nbl lk y ∧ ∀ z, z < y → t.1 z = true → t.2.2.2 z = d → x ∉ nbl lk z := fun x hx => by
            have hx' := hx
            rw [hL] at hx'
            have hd1 : t2.2.2.2 x = d + 1 := by rw [ht2]; exact if_pos hx'
            refine ⟨hd1, ?_⟩
            obtain ⟨y, f1, f2, f3, f4, f5⟩ := G2.2.2.2.2.2.2.2 x (by rw [e1, hx]; simp) (fun z => by have := hLt x hx; rw [z, hg.1] at this; cases this)
            have hyB : t.1 y = true := by
              rw [e1] at f2
              rcases Bool.eq_false_or_eq_true (t.1 y) with z | z
              · exact z
              · rw [z, Bool.false_or] at f2
                rw [hL] at f2
                have : t2.2.2.2 y = d + 1 := by rw [ht2]; exact if_pos f2
                omega
            have hyd : t.2.2.2 y = d := by rw [← (eold y hyB).2]; omega
            refine ⟨y, f1, hyB, hyd, f3, fun z z1 z2 z3 => f5 z z1 (by rw [e1, z2]; rfl) ?_⟩
            rw [(eold z z2).2, (eold y hyB).2, z3, hyd]
          -- into the cluster
          have put : ∀ (w x : Nat) (m5 : jM), x + w = n → (∀ y, y < n → m5 84 y = if y < x ∧ L y = true then nI s.1 else (if t.1 y then nI s.1 else parI (s.2.1 y))) → (∀ y, y < n → (t2.1 y = true → m5 85 y = parI (t2.2.2.1 y) ∧ m5 86 y = nI (t2.2.2.2 y)) ∧ (t2.1 y = false → (s.2.1 y).isSome = true → m5 85 y = parI (s.2.2.1 y) ∧ m5 86 y = nI (s.2.2.2 y))) → m5 58 32 = nI s.1 → (∀ y, y < n → m5 88 y = if L y then 1 else 0) → SmR [84, 85, 86, 88] [] mu m5 →
              J l G X Q0 8 174 [.ref 58, .int (nI a), .int (nI p), .int (nI s.1), .int (nI d + 1), .int x5, .int (nI x), .float 0] [] m5 0 := by
            intro w
            induction w with
            | zero =>
              intro x m5 hx r1 r2 r3 r4 r5
              have hxn : x = n := by omega
              subst hxn
              have hle : m5 58 1 ≤ nI x := by rw [r5.2 1 (by simp), hN.1]; exact Int32.le_refl _
              have M5 : RM x s t2 m5 := ⟨r3, fun y hy => ⟨by
                rw [r1 y hy, e1]
                by_cases z : L y = true
                · rw [if_pos ⟨hy, z⟩, z]; simp
                · rw [if_neg (fun u => z u.2)]
                  simp [show L y = false by simpa using z], (r2 y hy).1, (r2 y hy).2⟩⟩
              obtain ⟨hA5, hB5⟩ := M5.at hn (by omega) hI
              refine rX8_makeCluster_174 h (fun z => absurd hle z) (fun z => absurd hle z) (fun z => absurd hle z) (fun z => absurd hle z) (fun _ => ?_) (fun z => absurd hle z) (fun z => absurd hle z)
              refine rX8_makeCluster_220 h (k_markLayer hl hG hok (hN.same r5 (by decide) (by decide)) hA5 hB5) (by decide) (Nat.zero_le _) (fun v m6 e6 => ?_)
              obtain ⟨rfl, k1, k2⟩ := e6
              refine rX8_makeCluster_223 h ?_
              rw [nI_1]
              refine J_forget 6 (ih (d + 1) t2 m6 _ (by omega) G2 (by omega) ⟨by rw [k2.2 32 (by simp)]; exact r3, fun y hy => ?_⟩ (r5.trans' (k2.wide (by decide) (by decide))) rfl k1 (by omega) q6)
              rw [k2.1 84 (by decide) (by decide), k2.1 85 (by decide) (by decide), k2.1 86 (by decide) (by decide)]
              exact M5.2 y hy
            | succ w ihw =>
              intro x m5 hx r1 r2 r3 r4 r5
              have hle : ¬ m5 58 1 ≤ nI x := by rw [r5.2 1 (by simp), hN.1]; exact nI_ge (by omega) (by omega)
              have vx : vp_in (nI x) 24 := vp_in_nI (by omega) (by omega)
              have cx : (nI x).toNatClampNeg = x := nI_clamp (by omega)
              refine rX8_makeCluster_174 h (fun _ => vx) (fun _ _ => vx) (fun _ _ => vx) (fun _ _ => vx) (fun z => absurd z hle) (fun _ u => ?_) (fun _ u => ?_)
              · rw [cx, r4 x (by omega)] at u
                have hLx : L x = false := by
                  rcases Bool.eq_false_or_eq_true (L x) with z | z
                  · rw [z] at u; exact absurd rfl u
                  · exact z
                rw [wr_same, nI_1 x]
                refine ihw (x + 1) m5 (by omega) (fun y hy => ?_) r2 r3 r4 r5
                rw [r1 y hy]
                by_cases z : y = x
                · subst z; rw [hLx]; simp
                · simp only [show y < x + 1 ↔ y < x from by omega]
              · rw [cx, r4 x (by omega)] at u
                have hLx : L x = true := by
                  rcases Bool.eq_false_or_eq_true (L x) with z | z
                  · exact z
                  · rw [z] at u; exact absurd u (by decide)
                rw [cx, nI_1 x]
                refine ihw (x + 1) _ (by omega) (fun y hy => ?_) r2 r3 r4 (r5.trans' (SmR.wr (by decide) (by decide)))
                show (if y = x then nI s.1 else m5 84 y) = _
                by_cases z : y = x
                · rw [if_pos z, if_pos ⟨by omega, by rw [z]; exact hLx⟩]
                · rw [if_neg z, r1 y hy]
                  simp only [show y < x + 1 ↔ y < x from by omega]
          -- parents and depths
          have hang : ∀ (w x : Nat) (m5 : jM), x + w = n → (∀ y, y < n → m5 84 y = if t.1 y then nI s.1 else parI (s.2.1 y)) → (∀ y, y < n → (t.1 y = true ∨ (L y = true ∧ y < x) → m5 85 y = parI (t2.2.2.1 y) ∧ m5 86 y = nI (t2.2.2.2 y)) ∧ (t.1 y = false → L y = false → (s.2.1 y).isSome = true → m5 85 y = parI (s.2.2.1 y) ∧ m5 86 y = nI (s.2.2.2 y))) → m5 58 32 = nI s.1 → (∀ y, y < n → m5 88 y = if L y then 1 else 0) → SmR [84, 85, 86, 88] [] mu m5 →
              J l G X Q0 8 61 [.ref 58, .int (nI a), .int (nI p), .int (nI s.1), .int (nI d + 1), .int x5, .int (nI x), .float 0] [] m5 0 := by
            intro w
            induction w with
            | zero =>
              intro x m5 hx r1 r2 r3 r4 r5
              have hle : m5 58 1 ≤ nI x := by rw [r5.2 1 (by simp), hN.1]; exact nI_le (by omega) (by omega)
              refine rX8_makeCluster_61 h (fun z => absurd hle z) (fun z => absurd hle z) (fun _ => ?_) (fun z => absurd hle z) (fun z => absurd hle z)
              refine put n 0 m5 (by omega) (fun y hy => by rw [if_neg (by omega)]; exact r1 y hy) (fun y hy => ⟨fun z => (r2 y hy).1 ?_, fun z => (r2 y hy).2 ?_ ?_⟩) r3 r4 r5
              · rw [e1, Bool.or_eq_true] at z
                rcases z with z | z
                · exact Or.inl z
                · exact Or.inr ⟨z, by omega⟩
              · rw [e1, Bool.or_eq_false_iff] at z; exact z.1
              · rw [e1, Bool.or_eq_false_iff] at z; exact z.2
            | succ w ihw =>
              intro x m5 hx r1 r2 r3 r4 r5
              have hle : ¬ m5 58 1 ≤ nI x := by rw [r5.2 1 (by simp), hN.1]; exact nI_ge (by omega) (by omega)
              have vx : vp_in (nI x) 24 := vp_in_nI (by omega) (by omega)
              have cx : (nI x).toNatClampNeg = x := nI_clamp (by omega)
              refine rX8_makeCluster_61 h (fun _ => vx) (fun _ _ => vx) (fun z => absurd z hle) (fun _ u => ?_) (fun _ u => ?_)
              · rw [cx, r4 x (by omega)] at u
                have hLx : L x = false := by
                  rcases Bool.eq_false_or_eq_true (L x) with z | z
                  · rw [z] at u; exact absurd rfl u
                  · exact z
                refine rX8_makeCluster_165 h ?_
                rw [nI_1 x]
                refine ihw (x + 1) m5 (by omega) r1 (fun y hy => ⟨fun z => (r2 y hy).1 ?_, (r2 y hy).2⟩) r3 r4 r5
                rcases z with z | ⟨z1, z2⟩
                · exact Or.inl z
                · refine Or.inr ⟨z1, ?_⟩
                  rcases Nat.lt_or_ge y x with v | v
                  · exact v
                  · rw [show y = x by omega, hLx] at z1; cases z1
              · rw [cx, r4 x (by omega)] at u
                have hLx : L x = true := by
                  rcases Bool.eq_false_or_eq_true (L x) with z | z
                  · exact z
                  · rw [z] at u; exact absurd u (by decide)
                have hxt := hLt x hLx
                obtain ⟨xd, y0, xp, xy1, xy2, xy3, xy4⟩ := enew x hLx
                have hy0n := (hg.2.1 y0 xy1).1
                rw [cx, r5.2 1 (by simp), hN.1]
                have cand : ∀ z, z < n → ((∃ m : jM, True) → True) := fun _ _ _ => trivial
                -- down to the least
                have down : ∀ (b : Nat) (m6 : jM), b ≤ n → (∀ y, y < n → m6 84 y = if t.1 y then nI s.1 else parI (s.2.1 y)) → (∀ y, y < n → y ≠ x → m6 85 y = m5 85 y ∧ m6 86 y = m5 86 y) → m6 86 x = nI (d + 1) → (b ≤ y0 → m6 85 x = nI y0) → m6 58 32 = nI s.1 → (∀ y, y < n → m6 88 y = if L y then 1 else 0) → SmR [84, 85, 86, 88] [] mu m6 →
                    J l G X Q0 8 98 [.ref 58, .int (nI a), .int (nI p), .int (nI s.1), .int (nI d + 1), .int x5, .int (nI x), .int (nI b - 1)] [] m6 0 := by
                  intro b
                  induction b with
                  | zero =>
                    intro m6 hb j1 j2 j3 j4 j5 j6 j7
                    have hlt : nI 0 - 1 < 0 := by decide
                    refine rX8_makeCluster_98 h (fun z => absurd hlt z) (fun z => absurd hlt z) (fun z => absurd hlt z) (fun z => absurd hlt z) (fun z => absurd hlt z) (fun z => absurd hlt z) (fun _ => ?_) (fun z => absurd hlt z) (fun z => absurd hlt z) (fun z => absurd hlt z)
                    refine rX8_makeCluster_165b h ?_
                    rw [nI_1 x]
                    refine J_forget 7 (ihw (x + 1) m6 (by omega) j1 (fun y hy => ⟨fun z => ?_, fun z1 z2 z3 => ?_⟩) j5 j6 j7)
                    · by_cases zx : y = x
                      · rw [zx, j4 (by omega), j3, xp, xd]; exact ⟨rfl, rfl⟩
                      · rw [(j2 y hy zx).1, (j2 y hy zx).2]
                        refine (r2 y hy).1 ?_
                        rcases z with z | ⟨z1, z2⟩
                        · exact Or.inl z
                        · exact Or.inr ⟨z1, by omega⟩
                    · have zx : y ≠ x := fun v => by rw [v, hLx] at z2; cases z2
                      rw [(j2 y hy zx).1, (j2 y hy zx).2]
                      exact (r2 y hy).2 z1 z2 z3
                  | succ b ihb =>
                    intro m6 hb j1 j2 j3 j4 j5 j6 j7
                    have N6 := hN.same j7 (by decide) (by decide)
                    rw [nI_pred]
                    have hlt : ¬ nI b < 0 := nI_pos (by omega)
                    have vb : vp_in (nI b) 24 := vp_in_nI (by omega) (by omega)
                    have cb : (nI b).toNatClampNeg = b := nI_clamp (by omega)
                    have hm1 : nI b + (-1) = nI b - 1 := by rw [Int32.sub_eq_add_neg]
                    have hB6 : m6 84 b = nI s.1 ↔ t.1 b = true := by
                      have M6 := (q1.at hn (by omega) hI).2 b (by omega)
                      rw [(q1.2 b (by omega)).1] at M6
                      rw [j1 b (by omega)]
                      exact M6
                    have hd6 : t.1 b = true → (m6 86 b = nI d + 1 - 1 ↔ t.2.2.2 b = d) := fun z => by
                      have zx : b ≠ x := fun v => by rw [v, hxt] at z; cases z
                      have := hg.2.2.2.1 b z
                      rw [(j2 b (by omega) zx).2, ((r2 b (by omega)).1 (Or.inl z)).2, (eold b z).2, nI_1, nI_pred, nI_eq (by omega) (by omega)]
                    have same : ¬ (t.1 b = true ∧ t.2.2.2 b = d ∧ x ∈ nbl lk b) → J l G X Q0 8 98 [.ref 58, .int (nI a), .int (nI p), .int (nI s.1), .int (nI d + 1), .int x5, .int (nI x), .int (nI b + (-1))] [] (wr m6 85 (nI x).toNatClampNeg (m6 85 (nI x).toNatClampNeg)) 0 := fun hno => by
                      rw [wr_same, hm1]
                      refine ihb m6 (by omega) j1 j2 j3 (fun z => j4 ?_) j5 j6 j7
                      rcases Nat.lt_or_ge b y0 with v | v
                      · exact v
                      · have : b = y0 := by omega
                        subst this
                        exact absurd ⟨xy1, xy2, xy3⟩ hno
                    refine rX8_makeCluster_98 h (fun _ => vb) (fun _ _ => vx) (fun _ _ => vx) (fun _ _ => vb) (fun _ _ _ => vx) (fun _ _ _ => vx) (fun z => absurd z hlt) (fun _ u => ?_) (fun _ u u2 => ?_) (fun _ u u2 => ?_)
                    · rw [cb, hB6] at u
                      exact same (fun v => u v.1)
                    · rw [cb, hB6] at u
                      rw [cb, hd6 u] at u2
                      exact same (fun v => u2 v.2.1)
                    · rw [cb, hB6] at u
                      rw [cb, hd6 u] at u2
                      refine rX8_makeCluster_139 h (k_linkOf hl hG hok N6.2.1 N6.2.2.1 (by omega) (by omega)) (by decide) (Nat.zero_le _) (fun v m7 e7 => ?_)
                      obtain ⟨rfl, rfl⟩ := e7
                      refine rX8_makeCluster_142 h (fun _ => vx) (fun _ => vx) (fun _ => vx) (fun u3 => ?_) (fun u3 => ?_)
                      · rw [lnk_iff hok] at u3
                        exact same (fun v => u3 ((nbl_sym hok).mp v.2.2))
                      · rw [lnk_iff hok] at u3
                        have u3 := (nbl_sym hok).mp (Classical.not_not.mp u3)
                        rw [hm1, cx]
                        refine ihb _ (by omega) j1 (fun y hy hyx => ?_) j3 (fun z => ?_) j5 j6 (j7.trans' (SmR.wr (by decide) (by decide)))
                        · show (if y = x then _ else m7 85 y) = _ ∧ _
                          rw [if_neg hyx]; exact j2 y hy hyx
                        · rw [rd_at]
                          show (if x = x then nI b else _) = _
                          rw [if_pos rfl]
                          have : b = y0 := by
                            rcases Nat.lt_or_ge b y0 with v | v
                            · exact absurd u3 (xy4 b v u u2)
                            · omega
                          rw [this]
                have := down n (wr m5 86 x (nI d + 1)) (Nat.le_refl _) r1 (fun y hy hyx => by
                  show m5 85 y = _ ∧ (if y = x then _ else m5 86 y) = _
                  rw [if_neg hyx]; exact ⟨rfl, rfl⟩) (by rw [rd_at]; show (if x = x then nI d + 1 else _) = _; rw [if_pos rfl, nI_1]) (fun z => absurd z (by omega)) r3 r4 (r5.trans' (SmR.wr (by decide) (by decide)))
                exact this
          refine hang n 0 m4 (by omega) (fun y hy => (q1.2 y hy).1) (fun y hy => ⟨fun z => ?_, fun z1 z2 z3 => (q1.2 y hy).2.2 z1 z3⟩) q1.1 q4 q2
          rcases z with z | z
          · rw [(eold y z).1, (eold y z).2]
            exact (q1.2 y hy).2.1 z
          · omega
  have M1 : RM n s (gInit a) (wr (wr (wr mu 84 a (nI s.1)) 86 a 0) 85 a (-1)) := by
    refine ⟨hR.1, fun x hx => ?_⟩
    show (if x = a then nI s.1 else mu 84 x) = (if (x == a) = true then nI s.1 else parI (s.2.1 x)) ∧ ((x == a) = true → (if x = a then -1 else mu 85 x) = parI none ∧ (if x = a then 0 else mu 86 x) = nI 0) ∧ ((x == a) = false → (s.2.1 x).isSome = true → (if x = a then -1 else mu 85 x) = parI (s.2.2.1 x) ∧ (if x = a then 0 else mu 86 x) = nI (s.2.2.2 x))
    by_cases z : x = a
    · simp [z]; exact ⟨rfl, rfl⟩
    · have zf : (x == a) = false := by simpa using z
      rw [if_neg z, if_neg z, if_neg z, zf]
      exact ⟨by rw [if_neg (by decide)]; exact (hR.2 x hx).1, fun u => absurd u (by decide), fun _ u => (hR.2 x hx).2 u⟩
  have s1 : SmR [84, 85, 86, 88] [] mu (wr (wr (wr mu 84 a (nI s.1)) 86 a 0) 85 a (-1)) := ((SmR.wr (by decide) (by decide)).trans' (SmR.wr (by decide) (by decide))).trans' (SmR.wr (by decide) (by decide))
  obtain ⟨hA1, hB1⟩ := M1.at hn (by omega) hI
  refine rX8_makeCluster_31 h (k_markLayer hl hG hok (hN.same s1 (by decide) (by decide)) hA1 hB1) (by decide) (Nat.zero_le _) (fun v m2 e2 => ?_)
  obtain ⟨rfl, k1, k2⟩ := e2
  refine rX8_makeCluster_34 h ?_
  have c1 : 1 ≤ cnt n (gInit a).1 := fb_ct_pos.mpr ⟨a, ha, by simp [gInit]⟩
  refine loop n 0 (gInit a) m2 _ (by omega) (GI.init _ ha) (by omega) ⟨by rw [k2.2 32 (by simp)]; exact M1.1, fun y hy => ?_⟩ (s1.trans' (k2.wide (by decide) (by decide))) rfl k1 (by omega) rfl
  rw [k2.1 84 (by decide) (by decide), k2.1 85 (by decide) (by decide), k2.1 86 (by decide) (by decide)]
  exact M1.2 y hy
theorem k_chosenLink (hl : l.stackTraces = false) (hG : jGok G) {n : Nat} {lk : Lk} (hok : NetOk n lk) (hN : NetR n lk mu) {cl : Nat → Nat} (hcl : ∀ x, x < n → mu 84 x = nI (cl x) ∧ cl x < 24) {c d : Nat} (hc : c < 24) (hd : d < 24) : jCi l G yX8_chosenLink cX8_chosenLink 7 1 (some .int) [.ref 58, .int (nI c), .int (nI d)] mu (fun v mu' => v = parI (chF lk cl c d lk.length) ∧ mu' = mu) := by
  refine jCi.of (pad := 4) hl hG (by decide) (Nat.le_of_ble_eq_true rfl) (fun X h => ?_)
  show J l G X _ 7 0 [.ref 58, .int (nI c), .int (nI d), .float 0, .float 0, .float 0, .float 0] [] mu 0
  have hn := hok.1
  have h60 := hok.2.1
  refine rX8_chosenLink_0 h ?_
  rw [hN.2.1]
  have cd : nI c = nI d ↔ c = d := nI_eq (by omega) (by omega)
  have loop : ∀ (k : Nat) (it : Int32), k ≤ lk.length → ((it = -1 ∧ ∀ z, k ≤ z → z < lk.length → pairs lk cl c d z = false) ∨ ∃ y, k ≤ y ∧ y < lk.length ∧ pairs lk cl c d y = true ∧ it = nI y ∧ ∀ z, k ≤ z → z < y → pairs lk cl c d z = false) → J l G X (jRi G X (fun v mu' => v = parI (chF lk cl c d lk.length) ∧ mu' = mu)) 7 10 [.ref 58, .int (nI c), .int (nI d), .int it, .int (nI k - 1), .float 0, .float 0] [] mu 0 := by
    intro k
    induction k with
    | zero =>
      intro it hk hit
      have hlt : nI 0 - 1 < 0 := by decide
      refine rX8_chosenLink_10 h (fun z => absurd hlt z) (fun z => absurd hlt z) (fun z => absurd hlt z) (fun z => absurd hlt z) (fun _ => ?_) (fun z => absurd hlt z) (fun z => absurd hlt z) (fun z => absurd hlt z) (fun z => absurd hlt z)
      refine J_iret h dX8_chosenLink_86 rfl ⟨?_, rfl⟩
      cases hf : chF lk cl c d lk.length with
      | none =>
        rcases hit with u | ⟨y, u1, u2, u3, u4, u5⟩
        · exact u.1
        · have := List.find?_eq_none.mp hf y (List.mem_range.mpr u2)
          exact absurd u3 this
      | some x =>
        obtain ⟨f1, f2, f3⟩ := find_low hf
        rcases hit with u | ⟨y, u1, u2, u3, u4, u5⟩
        · rw [u.2 x (by omega) f1] at f2; cases f2
        · have : y = x := by
            rcases Nat.lt_trichotomy y x with v | v | v
            · rw [f3 y v] at u3; cases u3
            · exact v
            · rw [u5 x (by omega) v] at f2; cases f2
          rw [u4, this]; rfl
    | succ k ih =>
      intro it hk hit
      rw [nI_pred]
      have hlt : ¬ nI k < 0 := nI_pos (by omega)
      obtain ⟨e, he⟩ : ∃ e, lk[k]? = some e := ⟨lk[k], List.getElem?_eq_getElem (by omega : k < lk.length)⟩
      have hend := hok.2.2.1 e (List.mem_of_getElem? he)
      have ck : (nI k).toNatClampNeg = k := nI_clamp (by omega)
      have vk : vp_in (nI k) 60 := vp_in_nI (by omega) (by omega)
      have r1 : mu 59 (nI k).toNatClampNeg = nI e.1 := by rw [ck]; exact (hN.2.2.1 k e he).1
      have r2 : mu 60 (nI k).toNatClampNeg = nI e.2 := by rw [ck]; exact (hN.2.2.1 k e he).2
      obtain ⟨a1, a2⟩ := hcl e.1 hend.1
      obtain ⟨b1, b2⟩ := hcl e.2 hend.2.1
      have x1 : mu 84 (mu 59 (nI k).toNatClampNeg).toNatClampNeg = nI (cl e.1) := by rw [r1, nI_clamp (by omega)]; exact a1
      have x2 : mu 84 (mu 60 (nI k).toNatClampNeg).toNatClampNeg = nI (cl e.2) := by rw [r2, nI_clamp (by omega)]; exact b1
      have v1 : vp_in (mu 59 (nI k).toNatClampNeg) 24 := by rw [r1]; exact vp_in_nI (by omega) (by omega)
      have v2 : vp_in (mu 60 (nI k).toNatClampNeg) 24 := by rw [r2]; exact vp_in_nI (by omega) (by omega)
      have hm1 : nI k + (-1) = nI k - 1 := by rw [Int32.sub_eq_add_neg]
      have hpk : pairs lk cl c d k = true ↔ c ≠ d ∧ ((cl e.1 = c ∧ cl e.2 = d) ∨ (cl e.1 = d ∧ cl e.2 = c)) := by
        unfold pairs
        rw [he]
        simp
      have ec : ∀ u v : Nat, u < 24 → v < 24 → (nI u = nI v ↔ u = v) := fun u v z1 z2 => nI_eq (by omega) (by omega)
      have no : ¬ pairs lk cl c d k = true → J l G X (jRi G X (fun v mu' => v = parI (chF lk cl c d lk.length) ∧ mu' = mu)) 7 77 [.ref 58, .int (nI c), .int (nI d), .int it, .int (nI k), .int (nI (cl e.1)), .int (nI (cl e.2))] [] mu 0 := fun q => by
        refine rX8_chosenLink_77 h ?_
        rw [hm1]
        refine J_forget 5 (J_forget 6 (ih it (by omega) ?_))
        have qf : pairs lk cl c d k = false := by simpa using q
        rcases hit with ⟨u1, u2⟩ | ⟨y, u1, u2, u3, u4, u5⟩
        · refine Or.inl ⟨u1, fun z z1 z2 => ?_⟩
          rcases Nat.lt_or_ge k z with v | v
          · exact u2 z v z2
          · rw [show z = k by omega]; exact qf
        · refine Or.inr ⟨y, by omega, u2, u3, u4, fun z z1 z2 => ?_⟩
          rcases Nat.lt_or_ge k z with v | v
          · exact u5 z v z2
          · rw [show z = k by omega]; exact qf
      have yes : pairs lk cl c d k = true → J l G X (jRi G X (fun v mu' => v = parI (chF lk cl c d lk.length) ∧ mu' = mu)) 7 72 [.ref 58, .int (nI c), .int (nI d), .int it, .int (nI k), .int (nI (cl e.1)), .int (nI (cl e.2))] [] mu 0 := fun q => by
        refine rX8_chosenLink_72 h ?_
        rw [hm1]
        exact J_forget 5 (J_forget 6 (ih (nI k) (by omega) (Or.inr ⟨k, Nat.le_refl _, by omega, q, rfl, fun z z1 z2 => absurd z1 (by omega)⟩)))
      have mid : c ≠ d → ¬ (cl e.1 = c ∧ cl e.2 = d) → J l G X (jRi G X (fun v mu' => v = parI (chF lk cl c d lk.length) ∧ mu' = mu)) 7 60 [.ref 58, .int (nI c), .int (nI d), .int it, .int (nI k), .int (nI (cl e.1)), .int (nI (cl e.2))] [] mu 0 := fun hne q => by
        refine rX8_chosenLink_60 h (fun u => no (fun z => ?_)) (fun u u2 => no (fun z => ?_)) (fun u u2 => yes ?_)
        · rw [ec _ _ a2 hd] at u
          rcases (hpk.mp z).2 with w | w
          · exact q w
          · exact u w.1
        · rw [ec _ _ b2 hc] at u2
          rcases (hpk.mp z).2 with w | w
          · exact q w
          · exact u2 w.2
        · rw [ec _ _ a2 hd] at u
          rw [ec _ _ b2 hc] at u2
          exact hpk.mpr ⟨hne, Or.inr ⟨u, u2⟩⟩
      refine rX8_chosenLink_10 h (fun _ => vk) (fun _ => v1) (fun _ => vk) (fun _ => v2) (fun z => absurd z hlt) (fun _ u => ?_) (fun _ u u2 => ?_) (fun _ u u2 u3 => ?_) (fun _ u u2 u3 => ?_)
      · rw [cd] at u
        rw [x1, x2]
        exact no (fun z => (hpk.mp z).1 u)
      · rw [cd] at u
        rw [x1, ec _ _ a2 hc] at u2
        rw [x1, x2]
        exact mid u (fun z => u2 z.1)
      · rw [cd] at u
        rw [x1, ec _ _ a2 hc] at u2
        rw [x2, ec _ _ b2 hd] at u3
        rw [x1, x2]
        exact yes (hpk.mpr ⟨u, Or.inl ⟨u2, u3⟩⟩)
      · rw [cd] at u
        rw [x2, ec _ _ b2 hd] at u3
        rw [x1, x2]
        exact mid u (fun z => u3 z.2)
  exact loop lk.length (-1) (Nat.le_refl _) (Or.inl ⟨rfl, fun z z1 z2 => absurd z1 (by omega)⟩)
theorem k_makeClusters (hl : l.stackTraces = false) (hG : jGok G) {n p : Nat} {lk : Lk} (hok : NetOk n lk) (hN : NetR n lk mu) (hp1 : 2 ≤ p) (hp2 : p ≤ 8) : jCv l G yX8_makeClusters cX8_makeClusters 3 4 [.ref 58, .int (nI p)] mu (fun mu' => RC n (clAll lk n p) mu' ∧ (∀ k, k < lk.length → mu' 87 k = if chs lk (clV (clAll lk n p)) k then 1 else 0) ∧ SmR [84, 85, 86, 87, 88] [32] mu mu') := by
  refine jCv.of (pad := 1) hl hG (by decide) (Nat.le_of_ble_eq_true rfl) (fun X h => ?_)
  show J l G X _ 3 0 [.ref 58, .int (nI p), .float 0] [] mu 0
  have hn := hok.1
  have h60 := hok.2.1
  refine rX8_makeClusters_0 h ?_
  have hCI := clAll_CI hok p
  have chosen : ∀ (w k : Nat) (m3 : jM), k + w = lk.length → RC n (clAll lk n p) m3 → (∀ j, j < k → m3 87 j = if chs lk (clV (clAll lk n p)) j then 1 else 0) → SmR [84, 85, 86, 87, 88] [32] mu m3 → J l G X (jRv G X (fun mu' => RC n (clAll lk n p) mu' ∧ (∀ k, k < lk.length → mu' 87 k = if chs lk (clV (clAll lk n p)) k then 1 else 0) ∧ SmR [84, 85, 86, 87, 88] [32] mu mu')) 3 69 [.ref 58, .int (nI p), .int (nI k)] [] m3 0 := by
    intro w
    induction w with
    | zero =>
      intro k m3 hk q1 q2 q3
      have hle : m3 58 2 ≤ nI k := by rw [q3.2 2 (by simp), hN.2.1]; exact nI_le (by omega) (by omega)
      refine rX8_makeClusters_69 h (fun z => absurd hle z) (fun z => absurd hle z) (fun z => absurd hle z) (fun z => absurd hle z) (fun _ => ?_) (fun z => absurd hle z)
      exact J_vret h dX8_makeClusters_124 ⟨q1, fun j hj => q2 j (by omega), q3⟩
    | succ w ih =>
      intro k m3 hk q1 q2 q3
      have N3 := hN.same q3 (by decide) (by decide)
      have hkl : k < lk.length := by omega
      have hle : ¬ m3 58 2 ≤ nI k := by rw [q3.2 2 (by simp), hN.2.1]; exact nI_ge hkl (by omega)
      obtain ⟨e, he⟩ : ∃ e, lk[k]? = some e := ⟨lk[k], List.getElem?_eq_getElem hkl⟩
      have hend := hok.2.2.1 e (List.mem_of_getElem? he)
      have ck : (nI k).toNatClampNeg = k := nI_clamp (by omega)
      have vk : vp_in (nI k) 60 := vp_in_nI (by omega) (by omega)
      have hcl : ∀ x, x < n → m3 84 x = nI (clV (clAll lk n p) x) ∧ clV (clAll lk n p) x < 24 := fun x hx => by
        obtain ⟨c1, c2, c3⟩ := clV_some hCI hx
        exact ⟨by rw [(q1.2 x hx).1, c1]; rfl, by omega⟩
      have r1 : m3 59 (nI k).toNatClampNeg = nI e.1 := by rw [ck]; exact (N3.2.2.1 k e he).1
      have r2 : m3 60 (nI k).toNatClampNeg = nI e.2 := by rw [ck]; exact (N3.2.2.1 k e he).2
      have v1 : vp_in (m3 59 (nI k).toNatClampNeg) 24 := by rw [r1]; exact vp_in_nI (by omega) (by omega)
      have v2 : vp_in (m3 60 (nI k).toNatClampNeg) 24 := by rw [r2]; exact vp_in_nI (by omega) (by omega)
      refine rX8_makeClusters_69 h (fun _ => vk) (fun _ => v1) (fun _ => vk) (fun _ => v2) (fun z => absurd z hle) (fun _ => ?_)
      rw [r1, r2, nI_clamp (n := e.1) (by omega), nI_clamp (n := e.2) (by omega), (hcl e.1 hend.1).1, (hcl e.2 hend.2.1).1]
      refine rX8_makeClusters_105 h (k_chosenLink hl hG hok N3 hcl (hcl e.1 hend.1).2 (hcl e.2 hend.2.1).2) (by decide) (Nat.zero_le _) (fun v m4 e4 => ?_)
      obtain ⟨rfl, rfl⟩ := e4
      have hch : parI (chF lk (clV (clAll lk n p)) (clV (clAll lk n p) e.1) (clV (clAll lk n p) e.2) lk.length) = nI k ↔ chs lk (clV (clAll lk n p)) k = true := by
        unfold chs
        rw [he]
        simp only [beq_iff_eq]
        cases hf : chF lk (clV (clAll lk n p)) (clV (clAll lk n p) e.1) (clV (clAll lk n p) e.2) lk.length with
        | none =>
          simp only [parI]
          exact ⟨fun u => absurd (by rw [← u]; decide) (nI_pos (n := k) (by omega)), fun u => by cases u⟩
        | some x =>
          have := (find_low hf).1
          simp only [parI]
          rw [nI_eq (by omega) (by omega)]
          exact ⟨fun u => by rw [u], fun u => Option.some.inj u⟩
      have go : ∀ v : Int32, (vp_nar .boolean v = if chs lk (clV (clAll lk n p)) k then 1 else 0) → J l G X (jRv G X (fun mu' => RC n (clAll lk n p) mu' ∧ (∀ k, k < lk.length → mu' 87 k = if chs lk (clV (clAll lk n p)) k then 1 else 0) ∧ SmR [84, 85, 86, 87, 88] [32] mu mu')) 3 69 [.ref 58, .int (nI p), .int (nI k + 1)] [] (wr m4 87 (nI k).toNatClampNeg (vp_nar .boolean v)) 0 := fun v hv => by
        rw [ck, nI_1]
        refine ih (k + 1) _ (by omega) q1 (fun j hj => ?_) (q3.trans' (SmR.wr (by decide) (by decide)))
        show (if j = k then vp_nar .boolean v else m4 87 j) = _
        by_cases z : j = k
        · rw [if_pos z, z]; exact hv
        · rw [if_neg z]; exact q2 j (by omega)
      refine rX8_makeClusters_108 h (fun _ => vk) (fun _ => vk) (fun u => ?_) (fun u => ?_)
      · rw [hch] at u
        exact go 0 (by rw [if_neg u]; rfl)
      · rw [hch] at u
        exact go 1 (by rw [if_pos u]; rfl)
  have make : ∀ (w a : Nat) (s : CS) (m3 : jM), a + w = n → CI lk n a s → RC n s m3 → SmR [84, 85, 86, 87, 88] [32] mu m3 → clRun lk n p w a s = clAll lk n p → J l G X (jRv G X (fun mu' => RC n (clAll lk n p) mu' ∧ (∀ k, k < lk.length → mu' 87 k = if chs lk (clV (clAll lk n p)) k then 1 else 0) ∧ SmR [84, 85, 86, 87, 88] [32] mu mu')) 3 37 [.ref 58, .int (nI p), .int (nI a)] [] m3 0 := by
    intro w
    induction w with
    | zero =>
      intro a s m3 ha hI q1 q3 he
      have hle : m3 58 1 ≤ nI a := by rw [q3.2 1 (by simp), hN.1]; exact nI_le (by omega) (by omega)
      refine rX8_makeClusters_37 h (fun z => absurd hle z) (fun _ => ?_) (fun z => absurd hle z) (fun z => absurd hle z)
      exact chosen lk.length 0 m3 (by omega) (by rw [← he]; exact q1) (fun j hj => absurd hj (by omega)) q3
    | succ w ih =>
      intro a s m3 ha hI q1 q3 he
      have han : a < n := by omega
      have hle : ¬ m3 58 1 ≤ nI a := by rw [q3.2 1 (by simp), hN.1]; exact nI_ge (by omega) (by omega)
      have ca : (nI a).toNatClampNeg = a := nI_clamp (by omega)
      have hI2 := hI.step (p := p) hok han
      rw [show clRun lk n p (w + 1) a s = clRun lk n p w (a + 1) (clStep lk n p a s) from rfl] at he
      have h3 := hI.2.2.1
      have hnone : m3 84 a = -1 ↔ s.2.1 a = none := by
        rw [(q1.2 a han).1]
        cases hc : s.2.1 a with
        | none => exact ⟨fun _ => rfl, fun _ => rfl⟩
        | some c =>
          have := (hI.2.1 a c hc).2
          simp only [parI]
          exact ⟨fun u => absurd (by rw [u]; decide) (nI_pos (n := c) (by omega)), fun u => by cases u⟩
      refine rX8_makeClusters_37 h (fun _ => vp_in_nI (by omega) (by omega)) (fun z => absurd z hle) (fun _ u => ?_) (fun _ u => ?_)
      · rw [ca, hnone] at u
        have hst : clStep lk n p a s = s := if_pos (Option.isSome_iff_ne_none.mpr u)
        rw [hst] at he hI2
        refine rX8_makeClusters_61 h ?_
        rw [nI_1]
        exact ih (a + 1) s m3 (by omega) hI2 q1 q3 he
      · rw [ca, hnone] at u
        refine rX8_makeClusters_58 h (k_makeCluster hl hG hok (hN.same q3 (by decide) (by decide)) han hp1 hp2 hI q1 u) (by decide) (Nat.zero_le _) (fun m4 e4 => ?_)
        refine rX8_makeClusters_61 h ?_
        rw [nI_1]
        exact ih (a + 1) _ m4 (by omega) hI2 e4.1 (q3.trans' (e4.2.wide (by decide) (by decide))) he
  have init : ∀ (w a : Nat) (m3 : jM), a + w = n → m3 58 32 = nI 0 → (∀ x, x < a → m3 84 x = -1) → SmR [84, 85, 86, 87, 88] [32] mu m3 → J l G X (jRv G X (fun mu' => RC n (clAll lk n p) mu' ∧ (∀ k, k < lk.length → mu' 87 k = if chs lk (clV (clAll lk n p)) k then 1 else 0) ∧ SmR [84, 85, 86, 87, 88] [32] mu mu')) 3 7 [.ref 58, .int (nI p), .int (nI a)] [] m3 0 := by
    intro w
    induction w with
    | zero =>
      intro a m3 ha q0 q1 q3
      have hle : m3 58 1 ≤ nI a := by rw [q3.2 1 (by simp), hN.1]; exact nI_le (by omega) (by omega)
      refine rX8_makeClusters_7 h (fun z => absurd hle z) (fun z => absurd hle z) (fun _ => ?_) (fun z => absurd hle z)
      refine make n 0 clInit m3 (by omega) ?_ ⟨q0, fun x hx => ⟨q1 x (by omega), fun u => by cases u⟩⟩ q3 rfl
      refine ⟨fun x hx => absurd hx (by omega), fun x c hc => ?_, Nat.le_refl _, fun x c hc => ?_, fun x y c hc => ?_⟩
      · exact absurd hc (by simp [clInit])
      · exact absurd hc (by simp [clInit])
      · exact absurd hc (by simp [clInit])
    | succ w ih =>
      intro a m3 ha q0 q1 q3
      have hle : ¬ m3 58 1 ≤ nI a := by rw [q3.2 1 (by simp), hN.1]; exact nI_ge (by omega) (by omega)
      refine rX8_makeClusters_7 h (fun _ => vp_in_nI (by omega) (by omega)) (fun _ => vp_in_nI (by omega) (by omega)) (fun z => absurd z hle) (fun _ => ?_)
      rw [nI_clamp (by omega), nI_1]
      refine ih (a + 1) _ (by omega) q0 (fun x hx => ?_) (q3.trans' ((SmR.wr (by decide) (by decide)).trans' (SmR.wr (by decide) (by decide))))
      show (if x = a then -1 else m3 84 x) = -1
      by_cases z : x = a
      · rw [if_pos z]
      · rw [if_neg z]; exact q1 x (by omega)
  exact init n 0 _ (by omega) rfl (fun x hx => absurd hx (by omega)) (SmR.fld (by decide))
end C53
