/-! ===== the plain run ===== -/
abbrev PS : Type := (Nat → Int32) × Bx
def rgSet (R : Nat → Int32) (a : Nat) (f : Nat → Int32) : Nat → Int32 := fun j => if a * 8 ≤ j ∧ j < a * 8 + 8 then f (j - a * 8) else R j
def envOf (lk : Lk) (k a : Nat) (bx : Bx) : IE := (a, k, (nbl lk a).length, bx ((k - 1) % 2) a)
def exAt (lk : Lk) (pr : List Wd) (k a : Nat) (s : PS) : IS := exec pr (envOf lk k a s.2) (fun r => s.1 (a * 8 + r))
def plStep (lk : Lk) (pr : List Wd) (k a : Nat) (s : PS) : PS := (rgSet s.1 a (exAt lk pr k a s).1, dlvT lk a (k % 2) (exAt lk pr k a s).2 (nbl lk a).length (bxClr s.2 ((k - 1) % 2) a))
def plRound (lk : Lk) (pr : List Wd) (k : Nat) : Nat → Nat → PS → PS
  | 0, _, s => s
  | m + 1, a, s => plRound lk pr k m (a + 1) (plStep lk pr k a s)
def plRun (lk : Lk) (pr : List Wd) (n : Nat) : Nat → Nat → PS → PS
  | 0, _, s => s
  | m + 1, k, s => plRun lk pr n m (k + 1) (plRound lk pr k n 0 s)
def cdLock (ok : Bool) (x : Int32) : Nat := if x < 0 ∨ 300 < x then 1 else if ok then 0 else 2
theorem nbl24 {n : Nat} {lk : Lk} (hok : NetOk n lk) (a : Nat) : (nbl lk a).length ≤ 24 := nd_len (hok.2.2.2 a) (fun b hb => by have := (hok.nb hb).2.1; have := hok.1; omega)
section C45
variable {l : Launch} {G : jG} {mu : jM}
theorem c_passOnP (hl : l.stackTraces = false) (hG : jGok G) {n : Nat} {lk : Lk} (hok : NetOk n lk) (hN : PortC (nbl lk) mu) {bx : Bx} (hB : BoxC 16 17 bx mu) {sd : Nat → Option Int32} (hs : ∀ i, i < 32 → bt (mu 14 6) i = (sd i).isSome) (hs2 : ∀ p v, p < 24 → sd p = some v → mu 18 p = v) {a : Nat} (ha : a < 24) {k : Nat} (hk : k < 2 ^ 31) :
    jCv l G yX1_passOn cX1_passOn 4 3 [.ref 14, .int (nI a), .int (nI k)] mu (fun mu' => BoxC 16 17 (dlvT lk a (k % 2) sd (nbl lk a).length bx) mu' ∧ Same [16, 17] mu mu') := by
  refine jCv.of (pad := 1) hl hG (by decide) (Nat.le_of_ble_eq_true rfl) (fun X h => ?_)
  show J l G X _ 4 0 [.ref 14, .int (nI a), .int (nI k), .float 0] [] mu 0
  refine rX1_passOnP_0 h ?_
  have h24 := nbl24 hok a
  have hc : (nI a).toNatClampNeg = a := nI_clamp (by omega)
  have loop : ∀ (m p : Nat) (m1 : jM), p + m = (nbl lk a).length → BoxC 16 17 (dlvT lk a (k % 2) sd p bx) m1 → Same [16, 17] mu m1 → J l G X (jRv G X (fun mu' => BoxC 16 17 (dlvT lk a (k % 2) sd (nbl lk a).length bx) mu' ∧ Same [16, 17] mu mu')) 4 2 [.ref 14, .int (nI a), .int (nI k), .int (nI p)] [] m1 0 := by
    intro m
    induction m with
    | zero =>
      intro p m1 hp h1 h2
      have hpe : p = (nbl lk a).length := by omega
      subst hpe
      have hle : m1 9 (nI a).toNatClampNeg ≤ nI (nbl lk a).length := by rw [hc, h2 9 (by decide), (hN a ha).1]; exact Int32.le_refl _
      refine rX1_passOnP_2 h (vp_in_nI ha (by omega)) (fun _ => ?_) (fun z => absurd hle z)
      exact J_vret h dX1_passOn_55 ⟨h1, h2⟩
    | succ m ih =>
      intro p m1 hp h1 h2
      have hle : ¬ m1 9 (nI a).toNatClampNeg ≤ nI p := by rw [hc, h2 9 (by decide), (hN a ha).1]; exact nI_ge (by omega) (by omega)
      obtain ⟨b, hb⟩ : ∃ b, (nbl lk a)[p]? = some b := ⟨_, List.getElem?_eq_getElem (by omega : p < (nbl lk a).length)⟩
      have hbn := hok.nb (List.mem_of_getElem? hb)
      have hn := hok.1
      have hds := dlvT_succ hok (k % 2) sd bx hb
      have c1 : nI a * 24 + nI p = nI (a * 24 + p) := by rw [nL24, nI_mul, nI_add]
      have k1 : (nI (a * 24 + p)).toNatClampNeg = a * 24 + p := nI_clamp (by omega)
      refine rX1_passOnP_2 h (vp_in_nI ha (by omega)) (fun z => absurd z hle) (fun _ => ?_)
      refine rX1_passOnP_17 h (c_goesByP hl hG (sd := sd) (fun i hi => by rw [h2 14 (by decide)]; exact hs i hi) (p := p) (by omega)) (by decide) (Nat.zero_le _) (fun v m2 e1 => ?_)
      obtain ⟨e1, rfl⟩ := e1
      refine rX1_passOnP_20 h (fun _ => by rw [c1]; exact vp_in_nI (by omega) (by omega)) (fun _ => vp_in_nI (by omega) (by omega)) (fun q => ?_) (fun q => ?_)
      · refine rX1_passOnP_49 h ?_
        rw [nI_1]
        refine ih (p + 1) m2 (by omega) ?_ h2
        rw [hds]
        have := e1.no q
        cases hsd : sd p with
        | none => exact h1
        | some v => rw [hsd] at this; exact absurd rfl this
      · obtain ⟨w, hw⟩ := Option.isSome_iff_exists.mp (e1.yes q)
        rw [c1, k1, nI_clamp (n := p) (by omega), h2 18 (by decide), hs2 p w (by omega) hw, h2 11 (by decide), ((hN a ha).2.2 p b hb).1]
        have hpt : m2 12 (b * 24 + a) = nI (pt lk b a) := by rw [h2 12 (by decide)]; exact ((hN b (by omega)).2.2 _ a (nb_back hok hb)).2
        have hptl : pt lk b a < 24 := Nat.lt_of_lt_of_le (List.getElem?_eq_some_iff.mp (nb_back hok hb)).1 (nbl24 hok b)
        refine rX1_passOnP_46 h (c_acceptP hl hG (lk := lk) h1 k hk ha (by omega) hptl hpt w) (by decide) (Nat.zero_le _) (fun m3 e2 => ?_)
        refine rX1_passOnP_49 h ?_
        rw [nI_1]
        refine ih (p + 1) m3 (by omega) ?_ (h2.trans' e2.2)
        rw [hds, hw]
        exact e2.1
  exact loop (nbl lk a).length 0 mu (by omega) (by rw [dlvT_0]; exact hB) Same.rfl'
/-- the class's plain run -/
def PlC (n : Nat) (s : PS) (mu : jM) : Prop := (∀ j, j < 192 → mu 15 j = s.1 j) ∧ BoxC 16 17 s.2 mu
theorem c_lockstep (hl : l.stackTraces = false) (hG : jGok G) {n : Nat} {lk : Lk} (hok : NetOk n lk) (hN : NetC n lk mu) {pr : List Wd} (hP : ProgC pr mu) (hlen : pr.length ≤ 64) {ok : Bool} (hv : ok = true ↔ Valid pr) (x : Int32) : jXv l G yX7_lockstep cX7_lockstep 4 8 6 [.ref 0, .int x] mu
    (fun mu' => cdLock ok x = 0 ∧ (∀ j, j < 192 → mu' 15 j = (plRun lk pr n x.toNatClampNeg 1 (mu 13, fun _ _ _ => none)).1 j) ∧ Same [14, 15, 16, 17, 18] mu mu') (exC (cdLock ok x) [E_IAE, E_ISE] mu) := by
  refine jXv.of (pad := 2) hl hG (by decide) (Nat.le_of_ble_eq_true rfl) (fun X h ht => ?_)
  show J l G X _ 4 0 [.ref 0, .int x, .float 0, .float 0] [] mu 0
  refine rX7_lockstep_0 h (fun q => ?_) (fun q q2 => ?_) (fun q q2 => ?_)
  · exact tX7_lockstep_11 h ht (by decide) (by decide) ⟨rfl, by unfold cdLock; rw [if_pos (Or.inl q)]; decide, by unfold cdLock; rw [if_pos (Or.inl q)]; rfl⟩
  · have ex : cdLock ok x = if ok then 0 else 2 := by unfold cdLock; rw [if_neg (by grind)]
    refine rX7_lockstep_22 h ht (c_refuseWrong hl hG hP hlen) (by decide) (by decide) (fun E m1 e1 => ?_) (fun m1 e1 => ?_)
    · obtain ⟨rfl, rfl, e3⟩ := e1
      have : ok = false := by cases hb : ok with
        | false => rfl
        | true => exact absurd (hv.mp hb) e3
      exact ⟨rfl, by rw [ex, this]; decide, by rw [ex, this]; rfl⟩
    · obtain ⟨rfl, hval⟩ := e1
      have hokk : cdLock ok x = 0 := by rw [ex, hv.mpr hval]; rfl
      obtain ⟨R, hR, rfl⟩ := nI_of2 (M := 300) (n := 300) rfl q q2
      rw [nI_clamp (by omega)]
      refine rX7_lockstep_25 h ?_
      refine rX7_lockstep_33 h (c_beginP hl hG) (by decide) (by decide) (fun m2 e2 => ?_)
      obtain ⟨b1, b2, b3⟩ := e2
      refine rX7_lockstep_36 h ?_
      have hn24 := hok.1
      have st0 : PlC n (m1 13, fun _ _ _ => none) m2 := ⟨b1, fun q b p a1 a2 a3 => by rw [b2 _ (by omega), b_0]; exact ⟨rfl, fun v hv => by cases hv⟩⟩
      have rounds : ∀ (m k : Nat) (s : PS) (m3 : jM), k + m = R + 1 → 1 ≤ k → PlC n s m3 → Same [14, 15, 16, 17, 18] m1 m3 → plRun lk pr n m k s = plRun lk pr n R 1 (m1 13, fun _ _ _ => none) → J l G X (jRx G X 6 (va_Qv (fun mu' => cdLock ok (nI R) = 0 ∧ (∀ j, j < 192 → mu' 15 j = (plRun lk pr n R 1 (m1 13, fun _ _ _ => none)).1 j) ∧ Same [14, 15, 16, 17, 18] m1 mu') (jB G) (jA G)) (exC (cdLock ok (nI R)) [E_IAE, E_ISE] m1)) 4 38 [.ref 0, .int (nI R), .int (nI k), .float 0] [] m3 (0 + 1) := by
        intro m
        induction m with
        | zero =>
          intro k s m3 hk hk1 hs hS he
          have hlt : nI R < nI k := nI_lt (by omega) (by omega)
          refine rX7_lockstep_38 h (fun _ => ?_) (fun z => absurd hlt z)
          exact J_vretX h dX7_lockstep_86 (by decide) ⟨hokk, fun j hj => by rw [hs.1 j hj, ← he]; rfl, hS⟩
        | succ m ih =>
          intro k s m3 hk hk1 hs hS he
          have hlt : ¬ nI R < nI k := nI_nlt (by omega) (by omega)
          refine rX7_lockstep_38 h (fun z => absurd z hlt) (fun _ => ?_)
          have nodes : ∀ (w a : Nat) (s : PS) (m3 : jM), a + w = n → PlC n s m3 → Same [14, 15, 16, 17, 18] m1 m3 → plRun lk pr n m (k + 1) (plRound lk pr k w a s) = plRun lk pr n R 1 (m1 13, fun _ _ _ => none) → J l G X (jRx G X 6 (va_Qv (fun mu' => cdLock ok (nI R) = 0 ∧ (∀ j, j < 192 → mu' 15 j = (plRun lk pr n R 1 (m1 13, fun _ _ _ => none)).1 j) ∧ Same [14, 15, 16, 17, 18] m1 mu') (jB G) (jA G)) (exC (cdLock ok (nI R)) [E_IAE, E_ISE] m1)) 4 45 [.ref 0, .int (nI R), .int (nI k), .int (nI a)] [] m3 (0 + 1) := by
            intro w
            induction w with
            | zero =>
              intro a s m3 ha hs hS he
              have hle : m3 6 0 ≤ nI a := by rw [hS 6 (by decide), hN.1]; exact nI_le (by omega) (by omega)
              refine rX7_lockstep_45 h (fun _ => ?_) (fun z => absurd hle z)
              rw [nI_1]
              exact J_forget 3 (ih (k + 1) s m3 (by omega) (by omega) hs hS he)
            | succ w ihw =>
              intro a s m3 ha hs hS he
              have hle : ¬ m3 6 0 ≤ nI a := by rw [hS 6 (by decide), hN.1]; exact nI_ge (by omega) (by omega)
              have ha24 : a < 24 := by omega
              refine rX7_lockstep_45 h (fun z => absurd z hle) (fun _ => ?_)
              have P3 : ProgC pr m3 := hP.same hS (by decide)
              have N3 : NetC n lk m3 := hN.same hS (by decide)
              refine rX7_lockstep_62 h (c_doRoundP hl hG P3 hval hlen (E := envOf lk k a s.2) (R := fun r => s.1 (a * 8 + r)) ha24 hk1 (by show k < 2 ^ 31; omega) (N3.2.2.2 a ha24).1 (nbl24 hok a) (fun r hr => hs.1 _ (by show a * 8 + r < 192; omega)) (fun p hp => hs.2 ((k - 1) % 2) a p (by omega) ha24 hp)) (by decide) (by decide) (fun m4 e4 => ?_)
              obtain ⟨d1, d2, d3, d4, d5, d6⟩ := e4
              refine rX7_lockstep_65 h ?_
              have N4 : PortC (nbl lk) m4 := N3.2.2.2.congr (d5 9 (by decide) (by decide) (by decide) (by decide)) (d5 10 (by decide) (by decide) (by decide) (by decide)) (d5 11 (by decide) (by decide) (by decide) (by decide)) (d5 12 (by decide) (by decide) (by decide) (by decide))
              have B4 : BoxC 16 17 (bxClr s.2 ((k - 1) % 2) a) m4 := hs.2.clr d4 (d5 17 (by decide) (by decide) (by decide) (by decide)) ha24
              refine rX7_lockstep_71 h (c_passOnP hl hG hok N4 B4 (sd := (exAt lk pr k a s).2) d2 d3 ha24 (k := k) (by omega)) (by decide) (by decide) (fun m5 e5 => ?_)
              refine rX7_lockstep_74 h ?_
              rw [nI_1]
              refine ihw (a + 1) (plStep lk pr k a s) m5 (by omega) ⟨fun j hj => ?_, e5.1⟩ ?_ he
              · rw [e5.2 15 (by decide)]
                show m4 15 j = rgSet s.1 a _ j
                unfold rgSet
                by_cases z : a * 8 ≤ j ∧ j < a * 8 + 8
                · rw [if_pos z]
                  have := d1 (j - a * 8) (by omega)
                  rw [show (envOf lk k a s.2).1 * 8 + (j - a * 8) = j from (by show a * 8 + (j - a * 8) = j; omega)] at this
                  exact this
                · rw [if_neg z, d6 j (by show j < a * 8 ∨ a * 8 + 8 ≤ j; omega)]
                  exact hs.1 j hj
              · refine (hS.trans' (fun c hc => ?_)).trans' (e5.2.wide (by decide))
                exact d5 c (fun z => hc (by rw [z]; decide)) (fun z => hc (by rw [z]; decide)) (fun z => hc (by rw [z]; decide)) (fun z => hc (by rw [z]; decide))
          exact nodes n 0 s m3 (by omega) hs hS he
      exact rounds R 1 (m1 13, fun _ _ _ => none) m2 (by omega) (by omega) st0 (b3.wide (by decide)) rfl
  · exact tX7_lockstep_11 h ht (by decide) (by decide) ⟨rfl, by unfold cdLock; rw [if_pos (Or.inr (by grind))]; decide, by unfold cdLock; rw [if_pos (Or.inr (by grind))]; rfl⟩
end C45
