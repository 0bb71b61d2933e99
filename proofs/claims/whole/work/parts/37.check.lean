/-! ===== check: which words are wrong, both sides ===== -/
theorem iLt {x y : Int32} : x < y ↔ x.toInt < y.toInt := Int32.lt_iff_toInt_lt
theorem iLe {x y : Int32} : x ≤ y ↔ x.toInt ≤ y.toInt := Int32.le_iff_toInt_le
theorem iEq {x y : Int32} : x = y ↔ x.toInt = y.toInt := Int32.toInt_inj.symm
theorem nI_sub {a b : Nat} (h : b ≤ a) : nI a - nI b = nI (a - b) := by
  have : nI a = nI (a - b) + nI b := by rw [nI_add, Nat.sub_add_cancel h]
  rw [this, Int32.add_sub_cancel]
theorem lSum (x y : Int32) : (x.toInt64 + y.toInt64).toInt = x.toInt + y.toInt := by
  rw [Int64.toInt_add, Int32.toInt_toInt64, Int32.toInt_toInt64]
  have := Int32.toInt_lt x; have := Int32.le_toInt x; have := Int32.toInt_lt y; have := Int32.le_toInt y
  rw [Int.bmod_eq_of_le] <;> omega
theorem lcLt {x y : Int64} : lg_cmp x y < 0 ↔ x.toInt < y.toInt := (lg_cmp_lt x y).trans Int64.lt_iff_toInt_lt
theorem lcGe {x y : Int64} : 0 ≤ lg_cmp x y ↔ y.toInt ≤ x.toInt := (lg_cmp_ge x y).trans Int64.le_iff_toInt_le
theorem lcGt {x y : Int64} : 0 < lg_cmp x y ↔ y.toInt < x.toInt := (lg_cmp_gt x y).trans Int64.lt_iff_toInt_lt
/-- an answer 1 or 0 -/
def tf (v : Int32) (P : Prop) : Prop := (P ∧ v = 1) ∨ (¬ P ∧ v = 0)
theorem tf.one {P : Prop} (h : P) : tf 1 P := Or.inl ⟨h, rfl⟩
theorem tf.zero {P : Prop} (h : ¬ P) : tf 0 P := Or.inr ⟨h, rfl⟩
theorem tf.yes {v : Int32} {P : Prop} (h : tf v P) (q : ¬ v = 0) : P := h.elim (fun z => z.1) (fun z => absurd z.2 q)
theorem tf.no {v : Int32} {P : Prop} (h : tf v P) (q : v = 0) : ¬ P := h.elim (fun z => by rw [z.2] at q; exact absurd q (by decide)) (fun z => z.1)
def pO (pr : List Wd) (i : Nat) : Int32 := (pr.getD i (0, 0, 0, 0)).1
def pR (pr : List Wd) (i : Nat) : Int32 := (pr.getD i (0, 0, 0, 0)).2.1
def pA (pr : List Wd) (i : Nat) : Int32 := (pr.getD i (0, 0, 0, 0)).2.2.1
def pB (pr : List Wd) (i : Nat) : Int32 := (pr.getD i (0, 0, 0, 0)).2.2.2
theorem pr_at {pr : List Wd} {i : Nat} (h : i < pr.length) : pr[i]? = some (pO pr i, pR pr i, pA pr i, pB pr i) := by
  unfold pO pR pA pB
  rw [List.getD_eq_getElem?_getD, List.getElem?_eq_getElem h]
  rfl
theorem ProgC.rd {pr : List Wd} {mu : jM} (hP : ProgC pr mu) {i : Nat} (h : i < pr.length) : mu 2 i = pO pr i ∧ mu 3 i = pR pr i ∧ mu 4 i = pA pr i ∧ mu 5 i = pB pr i := hP.2 i _ (pr_at h)
theorem ProgR.rd {pr : List Wd} {mu : jM} (hP : ProgR pr mu) {i : Nat} (h : i < pr.length) : mu 65 (4 * i) = pO pr i ∧ mu 65 (4 * i + 1) = pR pr i ∧ mu 65 (4 * i + 2) = pA pr i ∧ mu 65 (4 * i + 3) = pB pr i := hP.2 i _ (pr_at h)
def badParts (o r a b : Int32) : Prop := o < 0 ∨ 21 < o ∨ ¬ isRg r ∨ ((1 ≤ o ∧ o ≤ 13) ∧ ¬ isRg a) ∨ ((2 ≤ o ∧ o ≤ 11) ∧ ¬ isRg b)
/-- a word that goes on too far, for what ends ahead of e -/
def far (pr : List Wd) (i e : Nat) : Prop := (pO pr i = 14 ∨ pO pr i = 15) ∧ ((pA pr i).toInt < 1 ∨ (e : Int) - 1 - i < (pA pr i).toInt)
/-- goes on in the midst of an EACH -/
def into (pr : List Wd) (i : Nat) : Prop := ∃ j : Nat, i < j ∧ (j : Int) < i + 1 + (pA pr i).toInt ∧ pO pr j = 15 ∧ (i : Int) + 1 + (pA pr i).toInt - j ≤ (pA pr j).toInt
/-- behind the words of the last EACH before a word -/
def beh (pr : List Wd) : Nat → Nat
  | 0 => 0
  | i + 1 => if pO pr i = 15 then i + 1 + (pA pr i).toNatClampNeg else beh pr i
def stands (pr : List Wd) (i : Nat) (w : Prop) : Prop := (pO pr i = 15 ∧ w) ∨ ((pO pr i = 16 ∨ pO pr i = 17 ∨ pO pr i = 18) ∧ ¬ w) ∨ (pO pr i = 14 ∧ ¬ w ∧ ¬ far pr i pr.length ∧ into pr i)
def wrongAt (pr : List Wd) (i : Nat) : Prop := badParts (pO pr i) (pR pr i) (pA pr i) (pB pr i) ∨ stands pr i (i < beh pr i) ∨ (i < beh pr i ∧ far pr i (beh pr i)) ∨ (¬ i < beh pr i ∧ far pr i pr.length)
def isFirst (pr : List Wd) (v : Int32) : Prop := (v = -1 ∧ ∀ j, j < pr.length → ¬ wrongAt pr j) ∨ ∃ i, i < pr.length ∧ v = nI i ∧ wrongAt pr i ∧ ∀ j, j < i → ¬ wrongAt pr j
theorem isFirst.one {pr : List Wd} {v w : Int32} (h : isFirst pr v) (h2 : isFirst pr w) : v = w := by
  rcases h with ⟨rfl, h⟩ | ⟨i, hi, rfl, hw, h⟩
  · rcases h2 with ⟨rfl, h2⟩ | ⟨j, hj, rfl, hw2, h2⟩
    · rfl
    · exact absurd hw2 (h j hj)
  · rcases h2 with ⟨rfl, h2⟩ | ⟨j, hj, rfl, hw2, h2⟩
    · exact absurd hw (h2 i hi)
    · have : i = j := by
        rcases Nat.lt_trichotomy i j with z | z | z
        · exact absurd hw (h2 i z)
        · exact z
        · exact absurd hw2 (h j z)
      rw [this]
/-- the words before a right one -/
theorem beh_le {pr : List Wd} : ∀ {i : Nat}, i ≤ pr.length → (∀ j, j < i → ¬ wrongAt pr j) → beh pr i ≤ pr.length
  | 0, _, _ => Nat.zero_le _
  | i + 1, hi, h => by
    have ih := beh_le (pr := pr) (i := i) (by omega) (fun j hj => h j (by omega))
    have hw := h i (by omega)
    unfold beh
    split
    · next q =>
      have hf : ¬ far pr i pr.length := fun z => hw (by
        unfold wrongAt
        by_cases w : i < beh pr i
        · exact Or.inr (Or.inl (Or.inl ⟨q, w⟩))
        · exact Or.inr (Or.inr (Or.inr ⟨w, z⟩)))
      have h1 : ¬ ((pA pr i).toInt < 1 ∨ (pr.length : Int) - 1 - i < (pA pr i).toInt) := fun z => hf ⟨Or.inr q, z⟩
      obtain ⟨a, ha, e⟩ := nI_of (x := pA pr i) (fun z => by rw [iLt] at z; have : (0 : Int32).toInt = 0 := rfl; omega)
      rw [e, nI_toInt ha] at h1
      rw [e, nI_clamp ha]
      omega
    · exact ih
section C37
variable {l : Launch} {G : jG} {mu : jM}
theorem c_isReg (hl : l.stackTraces = false) (hG : jGok G) (x : Int32) : jCi l G yX4_isRegister cX4_isRegister 1 1 (some .boolean) [.int x] mu (fun v mu' => tf v (isRg x) ∧ mu' = mu) := by
  refine jCi.of (pad := 0) hl hG (by decide) (Nat.le_of_ble_eq_true rfl) (fun X h => ?_)
  show J l G X _ 1 0 [.int x] [] mu 0
  refine rX4_isRegister_0 h (fun q1 => ?_) (fun q2 q3 => ?_) (fun q4 q5 => ?_)
  · refine rX4_isRegister_14 h ?_
    exact J_iret h dX4_isRegister_15 rfl (by unfold tf; grind)
  · refine rX4_isRegister_14 h ?_
    exact J_iret h dX4_isRegister_15 rfl (by unfold tf; grind)
  · exact J_iret h dX4_isRegister_15 rfl (by unfold tf; grind)
theorem c_hasWrongParts (hl : l.stackTraces = false) (hG : jGok G) {pr : List Wd} (hP : ProgC pr mu) (hlen : pr.length ≤ 64) {i : Nat} (hi : i < pr.length) : jCi l G yX4_hasWrongParts cX4_hasWrongParts 4 2 (some .boolean) [.ref 1, .int (nI i)] mu (fun v mu' => tf v (badParts (pO pr i) (pR pr i) (pA pr i) (pB pr i)) ∧ mu' = mu) := by
  refine jCi.of (pad := 2) hl hG (by decide) (Nat.le_of_ble_eq_true rfl) (fun X h => ?_)
  show J l G X _ 4 0 [.ref 1, .int (nI i), .float 0, .float 0] [] mu 0
  have hc : (nI i).toNatClampNeg = i := nI_clamp (by omega)
  have hs : vp_in (nI i) 64 := vp_in_nI (by omega) (by omega)
  obtain ⟨h1, h2, h3, h4⟩ := hP.rd hi
  refine rX4_hasWrongParts_0 h (hs) (fun _ => hs) (fun _ _ => hs) (fun q1 => ?_) (fun q2 q3 => ?_) (fun q4 q5 => ?_)
  · refine rX4_hasWrongParts_32 h ?_
    exact J_iret h dX4_hasWrongParts_33 rfl (by rw [hc] at *; unfold tf at *; unfold badParts; grind)
  · refine rX4_hasWrongParts_32 h ?_
    exact J_iret h dX4_hasWrongParts_33 rfl (by rw [hc] at *; unfold tf at *; unfold badParts; grind)
  · refine rX4_hasWrongParts_26 h (c_isReg hl hG _) (by decide) (Nat.zero_le _) (fun v m1 e1 => ?_)
    obtain ⟨e1, rfl⟩ := e1
    refine rX4_hasWrongParts_29 h (fun _ => hs) (fun _ _ => hs) (fun q6 q7 => ?_) (fun q8 q9 q10 => ?_) (fun q11 q12 q13 => ?_) (fun q14 => ?_)
    · refine rX4_hasWrongParts_59 h (hs) (fun _ => hs) (fun _ _ => hs) (fun q15 => ?_) (fun q16 q17 => ?_) (fun q18 q19 q20 => ?_) (fun q21 q22 q23 => ?_)
      · refine rX4_hasWrongParts_97 h (hs) ?_
        refine rX4_hasWrongParts_113 h (c_isReg hl hG _) (by decide) (Nat.zero_le _) (fun v m1 e1 => ?_)
        obtain ⟨e1, rfl⟩ := e1
        refine rX4_hasWrongParts_116 h (fun q24 => ?_) (fun q25 => ?_)
        · refine rX4_hasWrongParts_135 h ?_
          exact J_iret h dX4_hasWrongParts_140 rfl (by rw [hc] at *; unfold tf at *; unfold badParts; grind)
        · refine rX4_hasWrongParts_119 h (fun _ => hs) (fun q26 => ?_) (fun q27 => ?_)
          · refine rX4_hasWrongParts_139 h ?_
            exact J_iret h dX4_hasWrongParts_140 rfl (by rw [hc] at *; unfold tf at *; unfold badParts; grind)
          · refine rX4_hasWrongParts_129 h (c_isReg hl hG _) (by decide) (Nat.zero_le _) (fun v m1 e1 => ?_)
            obtain ⟨e1, rfl⟩ := e1
            refine rX4_hasWrongParts_132 h (fun q28 => ?_) (fun q29 => ?_)
            · refine rX4_hasWrongParts_139 h ?_
              exact J_iret h dX4_hasWrongParts_140 rfl (by rw [hc] at *; unfold tf at *; unfold badParts; grind)
            · refine rX4_hasWrongParts_135 h ?_
              exact J_iret h dX4_hasWrongParts_140 rfl (by rw [hc] at *; unfold tf at *; unfold badParts; grind)
      · refine rX4_hasWrongParts_97 h (hs) ?_
        refine rX4_hasWrongParts_113 h (c_isReg hl hG _) (by decide) (Nat.zero_le _) (fun v m1 e1 => ?_)
        obtain ⟨e1, rfl⟩ := e1
        refine rX4_hasWrongParts_116 h (fun q30 => ?_) (fun q31 => ?_)
        · refine rX4_hasWrongParts_135 h ?_
          exact J_iret h dX4_hasWrongParts_140 rfl (by rw [hc] at *; unfold tf at *; unfold badParts; grind)
        · refine rX4_hasWrongParts_119 h (fun _ => hs) (fun q32 => ?_) (fun q33 => ?_)
          · refine rX4_hasWrongParts_139 h ?_
            exact J_iret h dX4_hasWrongParts_140 rfl (by rw [hc] at *; unfold tf at *; unfold badParts; grind)
          · refine rX4_hasWrongParts_129 h (c_isReg hl hG _) (by decide) (Nat.zero_le _) (fun v m1 e1 => ?_)
            obtain ⟨e1, rfl⟩ := e1
            refine rX4_hasWrongParts_132 h (fun q34 => ?_) (fun q35 => ?_)
            · refine rX4_hasWrongParts_139 h ?_
              exact J_iret h dX4_hasWrongParts_140 rfl (by rw [hc] at *; unfold tf at *; unfold badParts; grind)
            · refine rX4_hasWrongParts_135 h ?_
              exact J_iret h dX4_hasWrongParts_140 rfl (by rw [hc] at *; unfold tf at *; unfold badParts; grind)
      · refine rX4_hasWrongParts_119 h (fun _ => hs) (fun q36 => ?_) (fun q37 => ?_)
        · refine rX4_hasWrongParts_139 h ?_
          exact J_iret h dX4_hasWrongParts_140 rfl (by rw [hc] at *; unfold tf at *; unfold badParts; grind)
        · refine rX4_hasWrongParts_129 h (c_isReg hl hG _) (by decide) (Nat.zero_le _) (fun v m1 e1 => ?_)
          obtain ⟨e1, rfl⟩ := e1
          refine rX4_hasWrongParts_132 h (fun q38 => ?_) (fun q39 => ?_)
          · refine rX4_hasWrongParts_139 h ?_
            exact J_iret h dX4_hasWrongParts_140 rfl (by rw [hc] at *; unfold tf at *; unfold badParts; grind)
          · refine rX4_hasWrongParts_135 h ?_
            exact J_iret h dX4_hasWrongParts_140 rfl (by rw [hc] at *; unfold tf at *; unfold badParts; grind)
      · refine rX4_hasWrongParts_97 h (hs) ?_
        refine rX4_hasWrongParts_113 h (c_isReg hl hG _) (by decide) (Nat.zero_le _) (fun v m1 e1 => ?_)
        obtain ⟨e1, rfl⟩ := e1
        refine rX4_hasWrongParts_116 h (fun q40 => ?_) (fun q41 => ?_)
        · refine rX4_hasWrongParts_135 h ?_
          exact J_iret h dX4_hasWrongParts_140 rfl (by rw [hc] at *; unfold tf at *; unfold badParts; grind)
        · refine rX4_hasWrongParts_119 h (fun _ => hs) (fun q42 => ?_) (fun q43 => ?_)
          · refine rX4_hasWrongParts_139 h ?_
            exact J_iret h dX4_hasWrongParts_140 rfl (by rw [hc] at *; unfold tf at *; unfold badParts; grind)
          · refine rX4_hasWrongParts_129 h (c_isReg hl hG _) (by decide) (Nat.zero_le _) (fun v m1 e1 => ?_)
            obtain ⟨e1, rfl⟩ := e1
            refine rX4_hasWrongParts_132 h (fun q44 => ?_) (fun q45 => ?_)
            · refine rX4_hasWrongParts_139 h ?_
              exact J_iret h dX4_hasWrongParts_140 rfl (by rw [hc] at *; unfold tf at *; unfold badParts; grind)
            · refine rX4_hasWrongParts_135 h ?_
              exact J_iret h dX4_hasWrongParts_140 rfl (by rw [hc] at *; unfold tf at *; unfold badParts; grind)
    · refine rX4_hasWrongParts_59 h (hs) (fun _ => hs) (fun _ _ => hs) (fun q46 => ?_) (fun q47 q48 => ?_) (fun q49 q50 q51 => ?_) (fun q52 q53 q54 => ?_)
      · refine rX4_hasWrongParts_97 h (hs) ?_
        refine rX4_hasWrongParts_113 h (c_isReg hl hG _) (by decide) (Nat.zero_le _) (fun v m1 e1 => ?_)
        obtain ⟨e1, rfl⟩ := e1
        refine rX4_hasWrongParts_116 h (fun q55 => ?_) (fun q56 => ?_)
        · refine rX4_hasWrongParts_135 h ?_
          exact J_iret h dX4_hasWrongParts_140 rfl (by rw [hc] at *; unfold tf at *; unfold badParts; grind)
        · refine rX4_hasWrongParts_119 h (fun _ => hs) (fun q57 => ?_) (fun q58 => ?_)
          · refine rX4_hasWrongParts_139 h ?_
            exact J_iret h dX4_hasWrongParts_140 rfl (by rw [hc] at *; unfold tf at *; unfold badParts; grind)
          · refine rX4_hasWrongParts_129 h (c_isReg hl hG _) (by decide) (Nat.zero_le _) (fun v m1 e1 => ?_)
            obtain ⟨e1, rfl⟩ := e1
            refine rX4_hasWrongParts_132 h (fun q59 => ?_) (fun q60 => ?_)
            · refine rX4_hasWrongParts_139 h ?_
              exact J_iret h dX4_hasWrongParts_140 rfl (by rw [hc] at *; unfold tf at *; unfold badParts; grind)
            · refine rX4_hasWrongParts_135 h ?_
              exact J_iret h dX4_hasWrongParts_140 rfl (by rw [hc] at *; unfold tf at *; unfold badParts; grind)
      · refine rX4_hasWrongParts_97 h (hs) ?_
        refine rX4_hasWrongParts_113 h (c_isReg hl hG _) (by decide) (Nat.zero_le _) (fun v m1 e1 => ?_)
        obtain ⟨e1, rfl⟩ := e1
        refine rX4_hasWrongParts_116 h (fun q61 => ?_) (fun q62 => ?_)
        · refine rX4_hasWrongParts_135 h ?_
          exact J_iret h dX4_hasWrongParts_140 rfl (by rw [hc] at *; unfold tf at *; unfold badParts; grind)
        · refine rX4_hasWrongParts_119 h (fun _ => hs) (fun q63 => ?_) (fun q64 => ?_)
          · refine rX4_hasWrongParts_139 h ?_
            exact J_iret h dX4_hasWrongParts_140 rfl (by rw [hc] at *; unfold tf at *; unfold badParts; grind)
          · refine rX4_hasWrongParts_129 h (c_isReg hl hG _) (by decide) (Nat.zero_le _) (fun v m1 e1 => ?_)
            obtain ⟨e1, rfl⟩ := e1
            refine rX4_hasWrongParts_132 h (fun q65 => ?_) (fun q66 => ?_)
            · refine rX4_hasWrongParts_139 h ?_
              exact J_iret h dX4_hasWrongParts_140 rfl (by rw [hc] at *; unfold tf at *; unfold badParts; grind)
            · refine rX4_hasWrongParts_135 h ?_
              exact J_iret h dX4_hasWrongParts_140 rfl (by rw [hc] at *; unfold tf at *; unfold badParts; grind)
      · refine rX4_hasWrongParts_119 h (fun _ => hs) (fun q67 => ?_) (fun q68 => ?_)
        · refine rX4_hasWrongParts_139 h ?_
          exact J_iret h dX4_hasWrongParts_140 rfl (by rw [hc] at *; unfold tf at *; unfold badParts; grind)
        · refine rX4_hasWrongParts_129 h (c_isReg hl hG _) (by decide) (Nat.zero_le _) (fun v m1 e1 => ?_)
          obtain ⟨e1, rfl⟩ := e1
          refine rX4_hasWrongParts_132 h (fun q69 => ?_) (fun q70 => ?_)
          · refine rX4_hasWrongParts_139 h ?_
            exact J_iret h dX4_hasWrongParts_140 rfl (by rw [hc] at *; unfold tf at *; unfold badParts; grind)
          · refine rX4_hasWrongParts_135 h ?_
            exact J_iret h dX4_hasWrongParts_140 rfl (by rw [hc] at *; unfold tf at *; unfold badParts; grind)
      · refine rX4_hasWrongParts_97 h (hs) ?_
        refine rX4_hasWrongParts_113 h (c_isReg hl hG _) (by decide) (Nat.zero_le _) (fun v m1 e1 => ?_)
        obtain ⟨e1, rfl⟩ := e1
        refine rX4_hasWrongParts_116 h (fun q71 => ?_) (fun q72 => ?_)
        · refine rX4_hasWrongParts_135 h ?_
          exact J_iret h dX4_hasWrongParts_140 rfl (by rw [hc] at *; unfold tf at *; unfold badParts; grind)
        · refine rX4_hasWrongParts_119 h (fun _ => hs) (fun q73 => ?_) (fun q74 => ?_)
          · refine rX4_hasWrongParts_139 h ?_
            exact J_iret h dX4_hasWrongParts_140 rfl (by rw [hc] at *; unfold tf at *; unfold badParts; grind)
          · refine rX4_hasWrongParts_129 h (c_isReg hl hG _) (by decide) (Nat.zero_le _) (fun v m1 e1 => ?_)
            obtain ⟨e1, rfl⟩ := e1
            refine rX4_hasWrongParts_132 h (fun q75 => ?_) (fun q76 => ?_)
            · refine rX4_hasWrongParts_139 h ?_
              exact J_iret h dX4_hasWrongParts_140 rfl (by rw [hc] at *; unfold tf at *; unfold badParts; grind)
            · refine rX4_hasWrongParts_135 h ?_
              exact J_iret h dX4_hasWrongParts_140 rfl (by rw [hc] at *; unfold tf at *; unfold badParts; grind)
    · refine rX4_hasWrongParts_97 h (hs) ?_
      refine rX4_hasWrongParts_113 h (c_isReg hl hG _) (by decide) (Nat.zero_le _) (fun v m1 e1 => ?_)
      obtain ⟨e1, rfl⟩ := e1
      refine rX4_hasWrongParts_116 h (fun q77 => ?_) (fun q78 => ?_)
      · refine rX4_hasWrongParts_135 h ?_
        exact J_iret h dX4_hasWrongParts_140 rfl (by rw [hc] at *; unfold tf at *; unfold badParts; grind)
      · refine rX4_hasWrongParts_119 h (fun _ => hs) (fun q79 => ?_) (fun q80 => ?_)
        · refine rX4_hasWrongParts_139 h ?_
          exact J_iret h dX4_hasWrongParts_140 rfl (by rw [hc] at *; unfold tf at *; unfold badParts; grind)
        · refine rX4_hasWrongParts_129 h (c_isReg hl hG _) (by decide) (Nat.zero_le _) (fun v m1 e1 => ?_)
          obtain ⟨e1, rfl⟩ := e1
          refine rX4_hasWrongParts_132 h (fun q81 => ?_) (fun q82 => ?_)
          · refine rX4_hasWrongParts_139 h ?_
            exact J_iret h dX4_hasWrongParts_140 rfl (by rw [hc] at *; unfold tf at *; unfold badParts; grind)
          · refine rX4_hasWrongParts_135 h ?_
            exact J_iret h dX4_hasWrongParts_140 rfl (by rw [hc] at *; unfold tf at *; unfold badParts; grind)
    · refine rX4_hasWrongParts_32 h ?_
      exact J_iret h dX4_hasWrongParts_33 rfl (by rw [hc] at *; unfold tf at *; unfold badParts; grind)
theorem c_reachesTooFar (hl : l.stackTraces = false) (hG : jGok G) {pr : List Wd} (hP : ProgC pr mu) (hlen : pr.length ≤ 64) {i e : Nat} (hi : i < pr.length) (he : i < e) (he2 : e ≤ 64) : jCi l G yX4_reachesTooFar cX4_reachesTooFar 3 1 (some .boolean) [.ref 1, .int (nI i), .int (nI e)] mu (fun v mu' => tf v (far pr i e) ∧ mu' = mu) := by
  refine jCi.of (pad := 0) hl hG (by decide) (Nat.le_of_ble_eq_true rfl) (fun X h => ?_)
  show J l G X _ 3 0 [.ref 1, .int (nI i), .int (nI e)] [] mu 0
  have hc : (nI i).toNatClampNeg = i := nI_clamp (by omega)
  have hs : vp_in (nI i) 64 := vp_in_nI (by omega) (by omega)
  obtain ⟨h1, h2, h3, h4⟩ := hP.rd hi
  have e1 : (nI e - 1) - nI i = nI (e - 1 - i) := by rw [nL1, nI_sub (by omega), nI_sub (by omega)]
  have e2 : (nI (e - 1 - i)).toInt = (e : Int) - 1 - i := by rw [nI_toInt (by omega)]; omega
  have e3 : (1 : Int32).toInt = 1 := rfl
  refine rX4_reachesTooFar_0 h (hs) (fun _ => hs) (fun q1 => ?_) (fun q2 q3 => ?_) (fun q4 q5 => ?_)
  · refine rX4_reachesTooFar_22 h (hs) (fun _ => hs) (fun q6 => ?_) (fun q7 q8 => ?_) (fun q9 q10 => ?_)
    · refine rX4_reachesTooFar_46 h ?_
      exact J_iret h dX4_reachesTooFar_51 rfl (by rw [hc] at *; unfold tf far; grind [iLt, iLe])
    · refine rX4_reachesTooFar_50 h ?_
      exact J_iret h dX4_reachesTooFar_51 rfl (by rw [hc] at *; unfold tf far; grind [iLt, iLe])
    · refine rX4_reachesTooFar_46 h ?_
      exact J_iret h dX4_reachesTooFar_51 rfl (by rw [hc] at *; unfold tf far; grind [iLt, iLe])
  · refine rX4_reachesTooFar_50 h ?_
    exact J_iret h dX4_reachesTooFar_51 rfl (by rw [hc] at *; unfold tf far; grind [iLt, iLe])
  · refine rX4_reachesTooFar_22 h (hs) (fun _ => hs) (fun q11 => ?_) (fun q12 q13 => ?_) (fun q14 q15 => ?_)
    · refine rX4_reachesTooFar_46 h ?_
      exact J_iret h dX4_reachesTooFar_51 rfl (by rw [hc] at *; unfold tf far; grind [iLt, iLe])
    · refine rX4_reachesTooFar_50 h ?_
      exact J_iret h dX4_reachesTooFar_51 rfl (by rw [hc] at *; unfold tf far; grind [iLt, iLe])
    · refine rX4_reachesTooFar_46 h ?_
      exact J_iret h dX4_reachesTooFar_51 rfl (by rw [hc] at *; unfold tf far; grind [iLt, iLe])
theorem not_far {pr : List Wd} {i e : Nat} (ho : pO pr i = 14 ∨ pO pr i = 15) (h : ¬ far pr i e) (he : e ≤ 64) : ∃ a : Nat, pA pr i = nI a ∧ 1 ≤ a ∧ i + a < e ∧ (pA pr i).toInt = a := by
  have h1 : ¬ ((pA pr i).toInt < 1 ∨ (e : Int) - 1 - i < (pA pr i).toInt) := fun z => h ⟨ho, z⟩
  obtain ⟨a, ha, q⟩ := nI_of (x := pA pr i) (fun z => by rw [iLt] at z; have : (0 : Int32).toInt = 0 := rfl; omega)
  refine ⟨a, q, ?_⟩
  rw [q, nI_toInt ha] at h1 ⊢
  omega
theorem c_skipsIntoEach (hl : l.stackTraces = false) (hG : jGok G) {pr : List Wd} (hP : ProgC pr mu) (hlen : pr.length ≤ 64) {i : Nat} (hi : i < pr.length) (ho : pO pr i = 14) : jCi l G yX4_skipsIntoEach cX4_skipsIntoEach 4 2 (some .boolean) [.ref 1, .int (nI i)] mu (fun v mu' => tf v (¬ far pr i pr.length ∧ into pr i) ∧ mu' = mu) := by
  refine jCi.of (pad := 2) hl hG (by decide) (Nat.le_of_ble_eq_true rfl) (fun X h => ?_)
  show J l G X _ 4 0 [.ref 1, .int (nI i), .float 0, .float 0] [] mu 0
  have hc : (nI i).toNatClampNeg = i := nI_clamp (by omega)
  have hs : vp_in (nI i) 64 := vp_in_nI (by omega) (by omega)
  obtain ⟨h1, h2, h3, h4⟩ := hP.rd hi
  refine rX4_skipsIntoEach_0 h ?_
  rw [hP.1]
  refine rX4_skipsIntoEach_6 h (c_reachesTooFar hl hG hP hlen hi hi hlen) (by decide) (Nat.zero_le _) (fun v m1 e1 => ?_)
  obtain ⟨e1, rfl⟩ := e1
  refine rX4_skipsIntoEach_9 h (fun _ => hs) (fun q => ?_) (fun q => ?_)
  · have hf := e1.no q
    obtain ⟨a, ha, ha1, ha2, haI⟩ := not_far (Or.inl ho) hf hlen
    rw [hc, h3, ha, nI_1, nI_add]
    have loop : ∀ (m j : Nat), j + m = i + 1 + a → i < j → (∀ k, i < k → k < j → ¬ (pO pr k = 15 ∧ ((i + 1 + a : Nat) : Int) - k ≤ (pA pr k).toInt)) →
        J l G X (jRi G X (fun v mu' => tf v (¬ far pr i pr.length ∧ into pr i) ∧ mu' = m1)) 4 29 [.ref 1, .int (nI i), .int (nI (i + 1 + a)), .int (nI j)] [] m1 0 := by
      intro m
      induction m with
      | zero =>
        intro j hj hij hk
        have hle : nI (i + 1 + a) ≤ nI j := nI_le (by omega) (by omega)
        refine rX4_skipsIntoEach_29 h (fun z => absurd hle z) (fun z => absurd hle z) (fun _ => ?_) (fun z => absurd hle z) (fun z => absurd hle z) (fun z => absurd hle z)
        refine J_iret h dX4_skipsIntoEach_66 rfl ⟨tf.zero (fun z => ?_), rfl⟩
        obtain ⟨k, k1, k2, k3, k4⟩ := z.2
        rw [haI] at k2 k4
        exact hk k k1 (by omega) ⟨k3, by omega⟩
      | succ m ih =>
        intro j hj hij hk
        have hle : ¬ nI (i + 1 + a) ≤ nI j := nI_ge (by omega) (by omega)
        have hjl : j < pr.length := by omega
        have hcj : (nI j).toNatClampNeg = j := nI_clamp (by omega)
        have hsj : vp_in (nI j) 64 := vp_in_nI (by omega) (by omega)
        obtain ⟨g1, g2, g3, g4⟩ := hP.rd hjl
        have es : nI (i + 1 + a) - nI j = nI (i + 1 + a - j) := nI_sub (by omega)
        have et : (nI (i + 1 + a - j)).toInt = ((i + 1 + a : Nat) : Int) - j := by rw [nI_toInt (by omega)]; omega
        have go : ¬ (pO pr j = 15 ∧ ((i + 1 + a : Nat) : Int) - j ≤ (pA pr j).toInt) → J l G X (jRi G X (fun v mu' => tf v (¬ far pr i pr.length ∧ into pr i) ∧ mu' = m1)) 4 59 [.ref 1, .int (nI i), .int (nI (i + 1 + a)), .int (nI j)] [] m1 0 := fun z => by
          refine rX4_skipsIntoEach_59 h ?_
          rw [nI_1]
          exact ih (j + 1) (by omega) (by omega) (fun k k1 k2 => by
            rcases Nat.lt_or_ge k j with w | w
            · exact hk k k1 w
            · rw [show k = j by omega]; exact z)
        refine rX4_skipsIntoEach_29 h (fun _ => hsj) (fun _ _ => hsj) (fun z => absurd z hle) (fun _ q2 => go ?_) (fun _ q2 q3 => go ?_) (fun _ q2 q3 => ?_)
        · rw [hcj, g1] at q2; exact fun z => q2 z.1
        · rw [hcj, g3, es, iLt, et] at q3; exact fun z => absurd q3 (by omega)
        · rw [hcj, g3, es, iLt, et] at q3
          rw [hcj, g1] at q2
          exact J_iret h dX4_skipsIntoEach_58 rfl ⟨tf.one ⟨hf, j, hij, by rw [haI]; omega, q2, by rw [haI]; omega⟩, rfl⟩
    exact loop a (i + 1) (by omega) (by omega) (fun k k1 k2 => absurd k1 (by omega))
  · exact J_iret h dX4_skipsIntoEach_13 rfl ⟨tf.zero (fun z => z.1 (e1.yes q)), rfl⟩
theorem c_standsWrong (hl : l.stackTraces = false) (hG : jGok G) {pr : List Wd} (hP : ProgC pr mu) (hlen : pr.length ≤ 64) {i : Nat} (hi : i < pr.length) {w : Int32} {W : Prop} (hw : tf w W) : jCi l G yX4_standsWrong cX4_standsWrong 3 3 (some .boolean) [.ref 1, .int (nI i), .int w] mu (fun v mu' => tf v (stands pr i W) ∧ mu' = mu) := by
  refine jCi.of (pad := 0) hl hG (by decide) (Nat.le_of_ble_eq_true rfl) (fun X h => ?_)
  show J l G X _ 3 0 [.ref 1, .int (nI i), .int w] [] mu 0
  have hc : (nI i).toNatClampNeg = i := nI_clamp (by omega)
  have hs : vp_in (nI i) 64 := vp_in_nI (by omega) (by omega)
  obtain ⟨h1, h2, h3, h4⟩ := hP.rd hi
  have hn : narrow .boolean (.int w) = .int w := by
    rcases hw with z | z
    · rw [z.2]; rfl
    · rw [z.2]; rfl
  refine rX4_standsWrong_0 h hs ?_
  rw [hc, h1]
  have n14 : (14 : Int32) ≠ 15 ∧ (14 : Int32) ≠ 16 ∧ (14 : Int32) ≠ 17 ∧ (14 : Int32) ≠ 18 ∧ (15 : Int32) ≠ 16 ∧ (15 : Int32) ≠ 17 ∧ (15 : Int32) ≠ 18 := by decide
  have last : ∀ q : pO pr i = 16 ∨ pO pr i = 17 ∨ pO pr i = 18, J l G X (jRi G X (fun v mu' => tf v (stands pr i W) ∧ mu' = mu)) 3 60 [.ref 1, .int (nI i), .int w] [] mu 0 := fun q => by
    refine rX4_standsWrong_60 h (fun q2 => ?_) (fun q2 => ?_)
    · exact J_iret h dX4_standsWrong_69 rfl ⟨tf.zero (by have := hw.yes q2; unfold stands; grind), rfl⟩
    · exact J_iret h dX4_standsWrong_69 rfl ⟨tf.one (by have := hw.no q2; unfold stands; grind), rfl⟩
  refine rX4_standsWrong_6 h (fun q => ?_) (fun q => ?_) (fun q => last (Or.inl q)) (fun q => last (Or.inr (Or.inl q))) (fun q => last (Or.inr (Or.inr q))) (fun q1 q2 q3 q4 q5 => ?_)
  · refine rX4_standsWrong_42 h (fun q2 => ?_) (fun q2 => ?_)
    · exact rX4_standsWrong_58 h (J_iret h dX4_standsWrong_59 rfl ⟨tf.zero (by have := hw.yes q2; unfold stands; grind), rfl⟩)
    · refine rX4_standsWrong_48 h (c_skipsIntoEach hl hG hP hlen hi q) (by decide) (Nat.zero_le _) (fun v m1 e1 => ?_)
      obtain ⟨e1, rfl⟩ := e1
      refine rX4_standsWrong_51 h (fun q3 => ?_) (fun q3 => ?_)
      · exact rX4_standsWrong_58 h (J_iret h dX4_standsWrong_59 rfl ⟨tf.zero (by have := e1.no q3; unfold stands; grind), rfl⟩)
      · exact J_iret h dX4_standsWrong_59 rfl ⟨tf.one (by have := e1.yes q3; have := hw.no q2; unfold stands; grind), rfl⟩
  · refine rX4_standsWrong_40 h (J_iret h dX4_standsWrong_41 hn ⟨?_, rfl⟩)
    rcases hw with z | z
    · exact Or.inl ⟨Or.inl ⟨q, z.1⟩, z.2⟩
    · exact Or.inr ⟨by unfold stands; grind, z.2⟩
  · exact rX4_standsWrong_70 h (J_iret h dX4_standsWrong_71 rfl ⟨tf.zero (by unfold stands; grind), rfl⟩)
theorem c_firstWrong (hl : l.stackTraces = false) (hG : jGok G) {pr : List Wd} (hP : ProgC pr mu) (hlen : pr.length ≤ 64) : jCi l G yX4_firstWrong cX4_firstWrong 4 4 (some .int) [.ref 1] mu (fun v mu' => isFirst pr v ∧ mu' = mu) := by
  refine jCi.of (pad := 3) hl hG (by decide) (Nat.le_of_ble_eq_true rfl) (fun X h => ?_)
  show J l G X _ 4 0 [.ref 1, .float 0, .float 0, .float 0] [] mu 0
  refine rX4_firstWrong_0 h ?_
  have loop : ∀ (m i : Nat) (x3 : Value), (x3 = .float 0 ∨ ∃ z : Int32, x3 = .int z) → i + m = pr.length → (∀ j, j < i → ¬ wrongAt pr j) → J l G X (jRi G X (fun v mu' => isFirst pr v ∧ mu' = mu)) 4 4 [.ref 1, .int (nI (beh pr i)), .int (nI i), x3] [] mu 0 := by
    intro m
    induction m with
    | zero =>
      intro i x3 hx hi hj
      have hle : mu 1 4 ≤ nI i := by rw [hP.1]; exact nI_le (by omega) (by omega)
      have fin : ∀ ls, J l G X (jRi G X (fun v mu' => isFirst pr v ∧ mu' = mu)) 4 91 ls [.int (-1)] mu 0 := fun ls => J_iret h dX4_firstWrong_91 rfl ⟨Or.inl ⟨rfl, fun j hj2 => hj j (by omega)⟩, rfl⟩
      rcases hx with rfl | ⟨z, rfl⟩
      · exact rX4_firstWrong_4 h (fun _ => fin _) (fun z => absurd hle z) (fun z => absurd hle z)
      · exact rX4_firstWrong_4b h (fun _ => fin _) (fun z => absurd hle z) (fun z => absurd hle z)
    | succ m ih =>
      intro i x3 hx hi hj
      have hil : i < pr.length := by omega
      have hle : ¬ mu 1 4 ≤ nI i := by rw [hP.1]; exact nI_ge (by omega) (by omega)
      have hb := beh_le (pr := pr) (i := i) (by omega) hj
      have hcb : (nI i).toNatClampNeg = i := nI_clamp (by omega)
      obtain ⟨g1, g2, g3, g4⟩ := hP.rd hil
      have hs : vp_in (nI i) 64 := vp_in_nI (by omega) (by omega)
      have bad : ∀ w : Int32, wrongAt pr i → J l G X (jRi G X (fun v mu' => isFirst pr v ∧ mu' = mu)) 4 60 [.ref 1, .int (nI (beh pr i)), .int (nI i), .int w] [] mu 0 := fun w hw =>
        rX4_firstWrong_60 h (J_iret h dX4_firstWrong_61 rfl ⟨Or.inr ⟨i, hil, rfl, hw, hj⟩, rfl⟩)
      have go : ∀ w : Int32, tf w (i < beh pr i) → J l G X (jRi G X (fun v mu' => isFirst pr v ∧ mu' = mu)) 4 25 [.ref 1, .int (nI (beh pr i)), .int (nI i), .int w] [.int (nI i), .ref 1] mu 0 := by
        intro w hw
        refine rX4_firstWrong_25 h (c_hasWrongParts hl hG hP hlen hil) (by decide) (Nat.zero_le _) (fun v m1 e1 => ?_)
        obtain ⟨e1, rfl⟩ := e1
        refine rX4_firstWrong_28 h (fun q => bad w (Or.inl (e1.yes q))) (fun q => ?_)
        have p1 := e1.no q
        refine rX4_firstWrong_34 h (c_standsWrong hl hG hP hlen hil hw) (by decide) (Nat.zero_le _) (fun v m1 e2 => ?_)
        obtain ⟨e2, rfl⟩ := e2
        have fin : ∀ v : Int32, tf v ((i < beh pr i ∧ far pr i (beh pr i)) ∨ (¬ i < beh pr i ∧ far pr i pr.length)) → ¬ stands pr i (i < beh pr i) → J l G X (jRi G X (fun v mu' => isFirst pr v ∧ mu' = m1)) 4 57 [.ref 1, .int (nI (beh pr i)), .int (nI i), .int w] [.int v] m1 0 := by
          intro v e3 p2
          have nxt : v = 0 → ¬ wrongAt pr i := fun z y => by
            have := e3.no z
            rcases y with y | y | y
            · exact p1 y
            · exact p2 y
            · exact this y
          refine rX4_firstWrong_57 h (fun _ => hs) (fun _ _ => hs) (fun q3 q4 => ?_) (fun q3 q4 => ?_) (fun q3 => ?_)
          · refine rX4_firstWrong_84 h ?_
            rw [hcb, g1] at q4
            have hbe : beh pr (i + 1) = beh pr i := if_neg q4
            rw [nI_1, ← hbe]
            exact ih (i + 1) _ (Or.inr ⟨_, rfl⟩) (by omega) (fun j hj2 => by
              rcases Nat.lt_or_ge j i with z | z
              · exact hj j z
              · rw [show j = i by omega]; exact nxt q3)
          · refine rX4_firstWrong_84 h ?_
            rw [hcb, g1] at q4
            have hbe : beh pr (i + 1) = i + 1 + (pA pr i).toNatClampNeg := if_pos q4
            have hall : ∀ j, j < i + 1 → ¬ wrongAt pr j := fun j hj2 => by
              rcases Nat.lt_or_ge j i with z | z
              · exact hj j z
              · rw [show j = i by omega]; exact nxt q3
            have hfar : ¬ far pr i pr.length := fun z => hall i (by omega) (by
              by_cases w2 : i < beh pr i
              · exact absurd (Or.inl ⟨q4, w2⟩) p2
              · exact Or.inr (Or.inr (Or.inr ⟨w2, z⟩)))
            obtain ⟨a, ha, ha1, ha2, ha3⟩ := not_far (Or.inr q4) hfar hlen
            rw [hcb, g3, nI_1, ha, nI_add, show i + 1 + a = beh pr (i + 1) by rw [hbe, ha, nI_clamp (by omega)]]
            exact ih (i + 1) _ (Or.inr ⟨_, rfl⟩) (by omega) hall
          · exact bad w (Or.inr (Or.inr (e3.yes q3)))
        refine rX4_firstWrong_37 h (fun q2 => bad w (Or.inr (Or.inl (e2.yes q2)))) (fun q2 q3 => ?_) (fun q2 q3 => ?_)
        · have hnw := hw.no q3
          rw [hP.1]
          refine rX4_firstWrong_54 h (c_reachesTooFar hl hG hP hlen hil hil hlen) (by decide) (Nat.zero_le _) (fun v m2 e3 => ?_)
          obtain ⟨e3, rfl⟩ := e3
          exact fin v (by unfold tf at *; grind) (e2.no q2)
        · have hnw := hw.yes q3
          refine rX4_firstWrong_54 h (c_reachesTooFar hl hG hP hlen hil hnw (by omega)) (by decide) (Nat.zero_le _) (fun v m2 e3 => ?_)
          obtain ⟨e3, rfl⟩ := e3
          exact fin v (by unfold tf at *; grind) (e2.no q2)
      have d0 : nI (beh pr i) ≤ nI i → tf 0 (i < beh pr i) := fun z => tf.zero (by have := (nI_leI (by omega) (by omega)).mp z; omega)
      have d1 : ¬ nI (beh pr i) ≤ nI i → tf 1 (i < beh pr i) := fun z => tf.one (Nat.lt_of_not_le (fun y => z (nI_le y (by omega))))
      rcases hx with rfl | ⟨z, rfl⟩
      · exact rX4_firstWrong_4 h (fun z => absurd z hle) (fun _ q => go 0 (d0 q)) (fun _ q => go 1 (d1 q))
      · exact rX4_firstWrong_4b h (fun z => absurd z hle) (fun _ q => go 0 (d0 q)) (fun _ q => go 1 (d1 q))
  exact loop pr.length 0 _ (Or.inl rfl) (by omega) (fun j hj => absurd hj (by omega))
theorem c_check (hl : l.stackTraces = false) (hG : jGok G) {pr : List Wd} (hP : ProgC pr mu) (hlen : pr.length ≤ 64) : jCi l G yX7_check cX7_check 1 8 (some .int) [.ref 0] mu (fun v mu' => isFirst pr v ∧ mu' = mu) := by
  refine jCi.of (pad := 0) hl hG (by decide) (Nat.le_of_ble_eq_true rfl) (fun X h => ?_)
  show J l G X _ 1 0 [.ref 0] [] mu 0
  refine rX7_check_0 h ?_
  refine rX7_check_4 h (c_firstWrong hl hG hP hlen) (by decide) (Nat.zero_le _) (fun v m1 e1 => ?_)
  exact J_iret h dX7_check_7 rfl (by exact e1)
/-- the reference's parts -/
theorem k_usesA (hl : l.stackTraces = false) (hG : jGok G) (x : Int32) : jCi l G yX8_usesA cX8_usesA 1 1 (some .boolean) [.int x] mu (fun v mu' => tf v (1 ≤ x ∧ x ≤ 13) ∧ mu' = mu) := by
  refine jCi.of (pad := 0) hl hG (by decide) (Nat.le_of_ble_eq_true rfl) (fun X h => ?_)
  show J l G X _ 1 0 [.int x] [] mu 0
  refine rX8_usesA_0 h (fun q1 => ?_) (fun q2 q3 => ?_) (fun q4 q5 => ?_)
  · refine rX8_usesA_15 h ?_
    exact J_iret h dX8_usesA_16 rfl (by unfold tf; grind)
  · refine rX8_usesA_15 h ?_
    exact J_iret h dX8_usesA_16 rfl (by unfold tf; grind)
  · exact J_iret h dX8_usesA_16 rfl (by unfold tf; grind)
theorem k_usesB (hl : l.stackTraces = false) (hG : jGok G) (x : Int32) : jCi l G yX8_usesB cX8_usesB 1 1 (some .boolean) [.int x] mu (fun v mu' => tf v (2 ≤ x ∧ x ≤ 11) ∧ mu' = mu) := by
  refine jCi.of (pad := 0) hl hG (by decide) (Nat.le_of_ble_eq_true rfl) (fun X h => ?_)
  show J l G X _ 1 0 [.int x] [] mu 0
  refine rX8_usesB_0 h (fun q1 => ?_) (fun q2 q3 => ?_) (fun q4 q5 => ?_)
  · refine rX8_usesB_15 h ?_
    exact J_iret h dX8_usesB_16 rfl (by unfold tf; grind)
  · refine rX8_usesB_15 h ?_
    exact J_iret h dX8_usesB_16 rfl (by unfold tf; grind)
  · exact J_iret h dX8_usesB_16 rfl (by unfold tf; grind)
def lastE (pr : List Wd) (i e : Nat) : Int32 := if i < beh pr e then nI (beh pr e - 1) else -1
theorem k_lastOfEach (hl : l.stackTraces = false) (hG : jGok G) {pr : List Wd} (hP : ProgR pr mu) (hlen : pr.length ≤ 64) {i : Nat} (hi : i < pr.length) (hj : ∀ j, j < i → ¬ wrongAt pr j) : jCi l G yX8_lastOfEach cX8_lastOfEach 5 1 (some .int) [.ref 58, .int (nI i)] mu (fun v mu' => v = lastE pr i i ∧ mu' = mu) := by
  refine jCi.of (pad := 3) hl hG (by decide) (Nat.le_of_ble_eq_true rfl) (fun X h => ?_)
  show J l G X _ 5 0 [.ref 58, .int (nI i), .float 0, .float 0, .float 0] [] mu 0
  refine rX8_lastOfEach_0 h ?_
  have hin : (nI i).toInt = i := nI_toInt (by omega)
  have loop : ∀ (m e : Nat) (x4 : Value), (x4 = .float 0 ∨ ∃ z : Int32, x4 = .int z) → e + m = i → J l G X (jRi G X (fun v mu' => v = lastE pr i i ∧ mu' = mu)) 5 4 [.ref 58, .int (nI i), .int (lastE pr i e), .int (nI e), x4] [] mu 0 := by
    intro m
    induction m with
    | zero =>
      intro e x4 hx he
      have hei : e = i := by omega
      subst hei
      have hb := beh_le (pr := pr) (i := e) (by omega) hj
      have f1 : lastE pr e e < nI e → (-1 : Int32) = lastE pr e e := fun q => by
        unfold lastE at q ⊢
        split
        · next z => rw [if_pos z] at q; exact absurd ((nI_ltI (by omega) (by omega)).mp q) (by omega)
        · rfl
      have fin1 : ∀ ls, lastE pr e e < nI e → J l G X (jRi G X (fun v mu' => v = lastE pr e e ∧ mu' = mu)) 5 92 ls [.int (-1)] mu 0 := fun ls q => J_iret h dX8_lastOfEach_92 rfl ⟨f1 q, rfl⟩
      have fin2 : ∀ ls, J l G X (jRi G X (fun v mu' => v = lastE pr e e ∧ mu' = mu)) 5 92 ls [.int (lastE pr e e)] mu 0 := fun ls => J_iret h dX8_lastOfEach_92 rfl ⟨rfl, rfl⟩
      have hle : nI e ≤ nI e := Int32.le_refl _
      rcases hx with rfl | ⟨z, rfl⟩
      · exact rX8_lastOfEach_4 h (fun z => absurd hle z) (fun z => absurd hle z) (fun z => absurd hle z) (fun _ q => fin1 _ q) (fun _ q => fin2 _) (fun z => absurd hle z) (fun z => absurd hle z) (fun z => absurd hle z) (fun z => absurd hle z)
      · exact rX8_lastOfEach_4b h (fun z => absurd hle z) (fun z => absurd hle z) (fun z => absurd hle z) (fun _ q => fin1 _ q) (fun _ q => fin2 _) (fun z => absurd hle z) (fun z => absurd hle z) (fun z => absurd hle z) (fun z => absurd hle z)
    | succ m ih =>
      intro e x4 hx he
      have hle : ¬ nI i ≤ nI e := nI_ge (by omega) (by omega)
      have hel : e < pr.length := by omega
      have hw := hj e (by omega)
      have hb := beh_le (pr := pr) (i := e) (by omega) (fun j q => hj j (by omega))
      obtain ⟨g1, g2, g3, g4⟩ := hP.rd hel
      have c4 : (4 : Int32) * nI e = nI (4 * e) := by rw [nL4, nI_mul]
      have c42 : (4 : Int32) * nI e + 2 = nI (4 * e + 2) := by rw [c4]; exact nI_add _ 2
      have k4 : (nI (4 * e)).toNatClampNeg = 4 * e := nI_clamp (by omega)
      have k42 : (nI (4 * e + 2)).toNatClampNeg = 4 * e + 2 := nI_clamp (by omega)
      have s1 : vp_in (4 * nI e) 256 := by rw [c4]; exact vp_in_nI (by omega) (by omega)
      have s2 : vp_in (4 * nI e + 2) 256 := by rw [c42]; exact vp_in_nI (by omega) (by omega)
      have keep : lastE pr i (e + 1) = lastE pr i e → ∀ x4 : Value, (x4 = .float 0 ∨ ∃ z : Int32, x4 = .int z) → J l G X (jRi G X (fun v mu' => v = lastE pr i i ∧ mu' = mu)) 5 51 [.ref 58, .int (nI i), .int (lastE pr i e), .int (nI e), x4] [] mu 0 := fun q x4 hx => by
        have := ih (e + 1) (.int 0) (Or.inr ⟨_, rfl⟩) (by omega)
        rw [q, ← nI_1] at this
        rcases hx with rfl | ⟨z, rfl⟩
        · exact rX8_lastOfEach_51 h this
        · exact rX8_lastOfEach_51b h this
      have n15 : ¬ pO pr e = 15 → lastE pr i (e + 1) = lastE pr i e := fun q => by unfold lastE; rw [show beh pr (e + 1) = beh pr e from if_neg q]
      have out : pO pr e = 15 → ¬ e < beh pr e ∧ ¬ far pr e pr.length := fun q => ⟨fun z => hw (Or.inr (Or.inl (Or.inl ⟨q, z⟩))), fun z => hw (by
        by_cases w2 : e < beh pr e
        · exact Or.inr (Or.inl (Or.inl ⟨q, w2⟩))
        · exact Or.inr (Or.inr (Or.inr ⟨w2, z⟩)))⟩
      have l1 : pO pr e = 15 → lastE pr i e = -1 := fun q => if_neg (by have := (out q).1; omega)
      have lt1 : (lg_cmp ((nI e).toInt64 + (pA pr e).toInt64) (nI i).toInt64 < 0) ↔ (e : Int) + (pA pr e).toInt < i := by
        rw [lcLt, lSum, Int32.toInt_toInt64, nI_toInt (by omega), hin]
      have short : pO pr e = 15 → (e : Int) + (pA pr e).toInt < i → lastE pr i (e + 1) = lastE pr i e := fun q z => by
        obtain ⟨a, ha, ha1, ha2, ha3⟩ := not_far (Or.inr q) (out q).2 hlen
        rw [l1 q]
        unfold lastE
        rw [if_neg]
        show ¬ i < if pO pr e = 15 then _ else _
        rw [if_pos q, ha, nI_clamp (by omega)]
        omega
      have long : pO pr e = 15 → ¬ (e : Int) + (pA pr e).toInt < i → lastE pr i (e + 1) = nI e + pA pr e := fun q z => by
        obtain ⟨a, ha, ha1, ha2, ha3⟩ := not_far (Or.inr q) (out q).2 hlen
        unfold lastE
        have hbe : beh pr (e + 1) = e + 1 + a := by
          show (if pO pr e = 15 then _ else _) = _
          rw [if_pos q, ha, nI_clamp (by omega)]
        rw [hbe, if_pos (by omega), ha, nI_add, show e + 1 + a - 1 = e + a by omega]
      have hneg : pO pr e = 15 → nI e ≤ lastE pr i e → False := fun q z => by
        rw [l1 q, iLe, nI_toInt (by omega)] at z
        have : (-1 : Int32).toInt = -1 := rfl
        omega
      have fin : ∀ q : pO pr e = 15, ¬ (e : Int) + (pA pr e).toInt < i → J l G X (jRi G X (fun v mu' => v = lastE pr i i ∧ mu' = mu)) 5 4 [.ref 58, .int (nI i), .int (nI e + pA pr e), .int (nI e + 1), .int 1] [] mu 0 := fun q z => by
        have := ih (e + 1) (.int 1) (Or.inr ⟨_, rfl⟩) (by omega)
        rw [long q z, ← nI_1] at this
        exact this
      rcases hx with rfl | ⟨z, rfl⟩
      · refine rX8_lastOfEach_4 h (fun _ => s1) (fun _ _ _ => s2) (fun _ _ _ _ => s2) (fun z => absurd z hle) (fun z => absurd z hle) (fun _ q => ?_) (fun _ q q2 => ?_) (fun _ q q2 q3 => ?_) (fun _ q q2 q3 => ?_)
        · rw [c4, k4, g1] at q; exact keep (n15 q) _ (Or.inl rfl)
        · rw [c4, k4, g1] at q; exact (hneg q q2).elim
        · rw [c4, k4, g1] at q; rw [c42, k42, g3, lt1] at q3; exact keep (short q q3) _ (Or.inl rfl)
        · rw [c4, k4, g1] at q; rw [c42, k42, g3] at q3 ⊢; rw [lt1] at q3; exact fin q q3
      · refine rX8_lastOfEach_4b h (fun _ => s1) (fun _ _ _ => s2) (fun _ _ _ _ => s2) (fun z => absurd z hle) (fun z => absurd z hle) (fun _ q => ?_) (fun _ q q2 => ?_) (fun _ q q2 q3 => ?_) (fun _ q q2 q3 => ?_)
        · rw [c4, k4, g1] at q; exact keep (n15 q) _ (Or.inr ⟨_, rfl⟩)
        · rw [c4, k4, g1] at q; exact (hneg q q2).elim
        · rw [c4, k4, g1] at q; rw [c42, k42, g3, lt1] at q3; exact keep (short q q3) _ (Or.inr ⟨_, rfl⟩)
        · rw [c4, k4, g1] at q; rw [c42, k42, g3] at q3 ⊢; rw [lt1] at q3; exact fin q q3
  exact loop i 0 _ (Or.inl rfl) (by omega)
theorem k_isMidst (hl : l.stackTraces = false) (hG : jGok G) {pr : List Wd} (hP : ProgR pr mu) (hlen : pr.length ≤ 64) {i a : Nat} (hi : i < pr.length) (ha : pA pr i = nI a) (ha1 : 1 ≤ a) (ha2 : i + a < pr.length) {t : Int64} (ht : t.toInt = (i : Int) + a + 1) : jCi l G yX8_isMidst cX8_isMidst 6 1 (some .boolean) [.ref 58, .int (nI i), .long t] mu (fun v mu' => tf v (into pr i) ∧ mu' = mu) := by
  refine jCi.of (pad := 2) hl hG (by decide) (Nat.le_of_ble_eq_true rfl) (fun X h => ?_)
  show J l G X _ 6 0 [.ref 58, .int (nI i), .long t, .float 0, .float 0, .float 0] [] mu 0
  refine rX8_isMidst_0 h ?_
  have haI : (pA pr i).toInt = a := by rw [ha, nI_toInt (by omega)]
  have loop : ∀ (m e : Nat) (x : Int32), e + m = i + 1 + a → i < e → tf x (∃ k : Nat, i < k ∧ k < e ∧ pO pr k = 15 ∧ (i : Int) + 1 + a - k ≤ (pA pr k).toInt) →
      J l G X (jRi G X (fun v mu' => tf v (into pr i) ∧ mu' = mu)) 6 8 [.ref 58, .int (nI i), .long t, .float 0, .int x, .int (nI e)] [] mu 0 := by
    intro m
    induction m with
    | zero =>
      intro e x he hie hx
      have fin : J l G X (jRi G X (fun v mu' => tf v (into pr i) ∧ mu' = mu)) 6 93 [.ref 58, .int (nI i), .long t, .float 0, .int x, .int (nI e)] [] mu 0 := by
        have hn : narrow .boolean (.int x) = .int x := by
          rcases hx with z | z
          · rw [z.2]; rfl
          · rw [z.2]; rfl
        refine rX8_isMidst_93 h (J_iret h dX8_isMidst_95 hn ⟨?_, rfl⟩)
        have : into pr i ↔ (∃ k : Nat, i < k ∧ k < e ∧ pO pr k = 15 ∧ (i : Int) + 1 + a - k ≤ (pA pr k).toInt) := by
          unfold into
          rw [haI]
          constructor
          · rintro ⟨k, k1, k2, k3, k4⟩; exact ⟨k, k1, by omega, k3, k4⟩
          · rintro ⟨k, k1, k2, k3, k4⟩; exact ⟨k, k1, by omega, k3, k4⟩
        unfold tf at *
        rw [this]; exact hx
      have hle : 0 ≤ lg_cmp (nI e).toInt64 t := by rw [lcGe, ht, Int32.toInt_toInt64, nI_toInt (by omega)]; omega
      exact rX8_isMidst_8 h (fun _ z => absurd hle z) (fun _ z => absurd hle z) (fun _ z => absurd hle z) (fun _ => fin) (fun _ _ => fin) (fun _ z => absurd hle z) (fun _ z => absurd hle z) (fun _ z => absurd hle z) (fun _ z => absurd hle z) (fun _ z => absurd hle z)
    | succ m ih =>
      intro e x he hie hx
      have hel : e < pr.length := by omega
      have hle : ¬ mu 58 9 ≤ nI e := by rw [hP.1]; exact nI_ge (by omega) (by omega)
      have hlt : ¬ 0 ≤ lg_cmp (nI e).toInt64 t := by rw [lcGe, ht, Int32.toInt_toInt64, nI_toInt (by omega)]; omega
      obtain ⟨g1, g2, g3, g4⟩ := hP.rd hel
      have c4 : (4 : Int32) * nI e = nI (4 * e) := by rw [nL4, nI_mul]
      have c42 : (4 : Int32) * nI e + 2 = nI (4 * e + 2) := by rw [c4]; exact nI_add _ 2
      have k4 : (nI (4 * e)).toNatClampNeg = 4 * e := nI_clamp (by omega)
      have k42 : (nI (4 * e + 2)).toNatClampNeg = 4 * e + 2 := nI_clamp (by omega)
      have s1 : vp_in (4 * nI e) 256 := by rw [c4]; exact vp_in_nI (by omega) (by omega)
      have s2 : vp_in (4 * nI e + 2) 256 := by rw [c42]; exact vp_in_nI (by omega) (by omega)
      have lt1 : (lg_cmp ((nI e).toInt64 + (pA pr e).toInt64) t < 0) ↔ (e : Int) + (pA pr e).toInt < (i : Int) + a + 1 := by
        rw [lcLt, lSum, ht, nI_toInt (by omega)]
      have e1 : (1 : Int32).toInt = 1 := rfl
      have yes : (∃ k : Nat, i < k ∧ k < e + 1 ∧ pO pr k = 15 ∧ (i : Int) + 1 + a - k ≤ (pA pr k).toInt) → J l G X (jRi G X (fun v mu' => tf v (into pr i) ∧ mu' = mu)) 6 80 [.ref 58, .int (nI i), .long t, .float 0, .int x, .int (nI e)] [] mu 0 := fun z => by
        refine rX8_isMidst_80 h ?_
        rw [nI_1]
        exact ih (e + 1) 1 (by omega) (by omega) (tf.one z)
      have no : x = 0 → ¬ (pO pr e = 15 ∧ (i : Int) + 1 + a - e ≤ (pA pr e).toInt) → J l G X (jRi G X (fun v mu' => tf v (into pr i) ∧ mu' = mu)) 6 84 [.ref 58, .int (nI i), .long t, .float 0, .int x, .int (nI e)] [] mu 0 := fun z0 z => by
        refine rX8_isMidst_84 h ?_
        rw [nI_1]
        refine ih (e + 1) 0 (by omega) (by omega) (tf.zero ?_)
        rintro ⟨k, k1, k2, k3, kz⟩
        rcases Nat.lt_or_ge k e with w | w
        · exact hx.no z0 ⟨k, k1, w, k3, kz⟩
        · have : k = e := by omega
          subst this
          exact z ⟨k3, kz⟩
      refine rX8_isMidst_8 h (fun _ _ _ => s1) (fun _ _ _ _ => s2) (fun _ _ _ _ _ => s2) (fun z => absurd z hle) (fun _ z => absurd z hlt) (fun _ _ q => yes ?_) (fun _ _ q0 q => no q0 ?_) (fun _ _ q0 q q2 => no q0 ?_) (fun _ _ q0 q q2 q3 => no q0 ?_) (fun _ _ q0 q q2 q3 => yes ?_)
      · obtain ⟨k, k1, k2, k3⟩ := hx.yes q
        exact ⟨k, k1, by omega, k3⟩
      · rw [c4, k4, g1] at q; exact fun z => q z.1
      · rw [c42, k42, g3, iLt, e1] at q2; omega
      · rw [c42, k42, g3, lt1] at q3; omega
      · rw [c42, k42, g3, lt1] at q3
        rw [c4, k4, g1] at q
        exact ⟨e, hie, by omega, q, by omega⟩
  have := loop a (i + 1) 0 (by omega) (by omega) (tf.zero (by rintro ⟨k, k1, k2, _⟩; omega))
  rw [← nI_1] at this
  exact this
theorem k_isRegT (hl : l.stackTraces = false) (hG : jGok G) (x : Int32) : jCi l G yX8_isRegister cX8_isRegister 1 1 (some .boolean) [.int x] mu (fun v mu' => tf v (isRg x) ∧ mu' = mu) := by
  refine jCi.of (pad := 0) hl hG (by decide) (Nat.le_of_ble_eq_true rfl) (fun X h => ?_)
  show J l G X _ 1 0 [.int x] [] mu 0
  refine rX8_isRegister_0 h (fun q1 => ?_) (fun q2 q3 => ?_) (fun q4 q5 => ?_)
  · refine rX8_isRegister_14 h ?_
    exact J_iret h dX8_isRegister_15 rfl (by unfold tf; grind)
  · refine rX8_isRegister_14 h ?_
    exact J_iret h dX8_isRegister_15 rfl (by unfold tf; grind)
  · exact J_iret h dX8_isRegister_15 rfl (by unfold tf; grind)
theorem k_isWrong (hl : l.stackTraces = false) (hG : jGok G) {pr : List Wd} (hP : ProgR pr mu) (hlen : pr.length ≤ 64) {i : Nat} (hi : i < pr.length) (hj : ∀ j, j < i → ¬ wrongAt pr j) : jCi l G yX8_isWrong cX8_isWrong 7 2 (some .boolean) [.ref 58, .int (nI i)] mu (fun v mu' => tf v (wrongAt pr i) ∧ mu' = mu) := by
  refine jCi.of (pad := 5) hl hG (by decide) (Nat.le_of_ble_eq_true rfl) (fun X h => ?_)
  show J l G X _ 7 0 [.ref 58, .int (nI i), .float 0, .float 0, .float 0, .float 0, .float 0] [] mu 0
  obtain ⟨g1, g2, g3, g4⟩ := hP.rd hi
  have c4 : (4 : Int32) * nI i = nI (4 * i) := by rw [nL4, nI_mul]
  have c41 : (4 : Int32) * nI i + 1 = nI (4 * i + 1) := by rw [c4]; exact nI_add _ 1
  have c42 : (4 : Int32) * nI i + 2 = nI (4 * i + 2) := by rw [c4]; exact nI_add _ 2
  have c43 : (4 : Int32) * nI i + 3 = nI (4 * i + 3) := by rw [c4]; exact nI_add _ 3
  have k4 : (nI (4 * i)).toNatClampNeg = 4 * i := nI_clamp (by omega)
  have k41 : (nI (4 * i + 1)).toNatClampNeg = 4 * i + 1 := nI_clamp (by omega)
  have k42 : (nI (4 * i + 2)).toNatClampNeg = 4 * i + 2 := nI_clamp (by omega)
  have k43 : (nI (4 * i + 3)).toNatClampNeg = 4 * i + 3 := nI_clamp (by omega)
  have s0 : vp_in (4 * nI i) 256 := by rw [c4]; exact vp_in_nI (by omega) (by omega)
  have s1 : vp_in (4 * nI i + 1) 256 := by rw [c41]; exact vp_in_nI (by omega) (by omega)
  have s2 : vp_in (4 * nI i + 2) 256 := by rw [c42]; exact vp_in_nI (by omega) (by omega)
  have s3 : vp_in (4 * nI i + 3) 256 := by rw [c43]; exact vp_in_nI (by omega) (by omega)
  refine rX8_isWrong_0 h s0 s2 ?_
  rw [c4, k4, g1, show nI (4 * i) + 2 = nI (4 * i + 2) from nI_add _ 2, k42, g3]
  refine rX8_isWrong_22 h (k_lastOfEach hl hG hP hlen hi hj) (by decide) (Nat.zero_le _) (fun v m1 e1 => ?_)
  obtain ⟨hv, rfl⟩ := e1
  have hb := beh_le (pr := pr) (i := i) (by omega) hj
  have hL : (i < beh pr i ∧ v.toInt = (beh pr i : Int) - 1 ∧ ¬ v = -1) ∨ (¬ i < beh pr i ∧ v = -1) := by
    rw [hv]
    unfold lastE
    split
    · next z =>
      have : (nI (beh pr i - 1)).toInt = (beh pr i : Int) - 1 := by rw [nI_toInt (by omega)]; omega
      exact Or.inl ⟨z, this, fun y => by rw [y] at this; have : (-1 : Int32).toInt = -1 := rfl; omega⟩
    · next z => exact Or.inr ⟨z, rfl⟩
  have hE : 0 ≤ lg_cmp ((nI i).toInt64 + (pA pr i).toInt64) (m1 58 9).toInt64 ↔ (pr.length : Int) ≤ i + (pA pr i).toInt := by
    rw [hP.1, lcGe, lSum, Int32.toInt_toInt64, nI_toInt (by omega), nI_toInt (by omega)]
  have hV : 0 < lg_cmp ((nI i).toInt64 + (pA pr i).toInt64) v.toInt64 ↔ v.toInt < i + (pA pr i).toInt := by
    rw [lcGt, lSum, Int32.toInt_toInt64, nI_toInt (by omega)]
  have i1 : (pA pr i < 1) ↔ (pA pr i).toInt < 1 := iLt
  have hm : pO pr i = 14 → ¬ pA pr i < 1 → ¬ (pr.length : Int) ≤ i + (pA pr i).toInt → ∃ a : Nat, pA pr i = nI a ∧ 1 ≤ a ∧ i + a < pr.length ∧ (pA pr i).toInt = a := fun q1 q2 q3 => not_far (Or.inl q1) (fun z => by have := z.2; rw [i1] at q2; omega) hlen
  have fin : ∀ (x4 : Int64) (L : List Value), x4 = (nI i).toInt64 + (pA pr i).toInt64 → pO pr i = 14 → ¬ i < beh pr i → ¬ pA pr i < 1 → ¬ (pr.length : Int) ≤ i + (pA pr i).toInt → ¬ badParts (pO pr i) (pR pr i) (pA pr i) (pB pr i) → J l G X (jRi G X (fun v mu' => tf v (wrongAt pr i) ∧ mu' = m1)) 7 200 [.ref 58, .int (nI i), .int (pO pr i), .int (pA pr i), .int v, .long x4, .float 0] [.long (x4 + 1), .int (nI i), .ref 58] m1 0 := by
    intro x4 L hx q1 q2 q3 q4 q5
    obtain ⟨a, ha, ha1, ha2, ha3⟩ := hm q1 q3 q4
    have ht : (x4 + 1).toInt = (i : Int) + a + 1 := by
      rw [Int64.toInt_add, hx, lSum, nI_toInt (by omega), ha3, show (1 : Int64).toInt = 1 from rfl, Int.bmod_eq_of_le] <;> omega
    have nf : ¬ far pr i pr.length := fun z => by have := z.2; rw [i1] at q3; omega
    refine rX8_isWrong_200 h (k_isMidst hl hG hP hlen hi ha ha1 ha2 ht) (by decide) (Nat.zero_le _) (fun w m2 e2 => ?_)
    obtain ⟨e2, rfl⟩ := e2
    refine rX8_isWrong_203 h (fun q => ?_) (fun q => ?_)
    · refine rX8_isWrong_210 h (J_iret h dX8_isWrong_211 rfl ⟨tf.zero ?_, rfl⟩)
      have := e2.no q
      unfold wrongAt stands
      grind
    · refine J_iret h dX8_isWrong_211 rfl ⟨tf.one ?_, rfl⟩
      exact Or.inr (Or.inl (Or.inr (Or.inr ⟨q1, q2, nf, e2.yes q⟩)))
  refine rX8_isWrong_25 h (fun _ _ => by first | exact s1 | exact s3) (fun q1 => ?_) (fun q2 q3 => ?_) (fun q4 q5 => ?_)
  · refine rX8_isWrong_90 h ?_
    exact J_iret h dX8_isWrong_91 rfl (by unfold tf at *; unfold wrongAt stands badParts far; grind)
  · refine rX8_isWrong_90 h ?_
    exact J_iret h dX8_isWrong_91 rfl (by unfold tf at *; unfold wrongAt stands badParts far; grind)
  · refine rX8_isWrong_47 h (k_isRegT hl hG _) (by decide) (Nat.zero_le _) (fun v m1 e1 => ?_)
    obtain ⟨e1, rfl⟩ := e1
    refine rX8_isWrong_50 h (fun q6 => ?_) (fun q7 => ?_)
    · refine rX8_isWrong_90 h ?_
      exact J_iret h dX8_isWrong_91 rfl (by unfold tf at *; unfold wrongAt stands badParts far; grind)
    · refine rX8_isWrong_54 h (k_usesA hl hG _) (by decide) (Nat.zero_le _) (fun v m1 e1 => ?_)
      obtain ⟨e1, rfl⟩ := e1
      refine rX8_isWrong_57 h (fun q8 => ?_) (fun q9 => ?_)
      · refine rX8_isWrong_67 h ?_
        refine rX8_isWrong_68 h (k_usesB hl hG _) (by decide) (Nat.zero_le _) (fun v m1 e1 => ?_)
        obtain ⟨e1, rfl⟩ := e1
        refine rX8_isWrong_71 h (fun _ => by first | exact s1 | exact s3) (fun q10 => ?_) (fun q11 => ?_)
        · refine rX8_isWrong_92 h (fun q12 => ?_) (fun q13 q14 => ?_) (fun q15 q16 q17 => ?_) (fun q18 q19 q20 => ?_)
          · refine rX8_isWrong_116 h (fun q21 => ?_) (fun q22 q23 => ?_) (fun q24 q25 => ?_)
            · refine rX8_isWrong_130 h (fun q26 => ?_) (fun q27 q28 => ?_) (fun q29 q30 q31 => ?_) (fun q32 q33 q34 q35 => ?_) (fun q36 q37 q38 q39 => ?_)
              · refine rX8_isWrong_180 h ?_
                exact J_iret h dX8_isWrong_181 rfl (by unfold tf at *; unfold wrongAt stands badParts far; grind)
              · refine rX8_isWrong_180 h ?_
                exact J_iret h dX8_isWrong_181 rfl (by unfold tf at *; unfold wrongAt stands badParts far; grind)
              · refine rX8_isWrong_168 h (fun q40 => ?_) (fun q41 q42 => ?_) (fun q43 q44 => ?_)
                · refine rX8_isWrong_182 h (fun q45 => ?_) (fun q46 q47 => ?_) (fun q48 q49 => ?_)
                  · refine rX8_isWrong_210 h ?_
                    exact J_iret h dX8_isWrong_211 rfl (by unfold tf at *; unfold wrongAt stands badParts far; grind)
                  · refine rX8_isWrong_210 h ?_
                    exact J_iret h dX8_isWrong_211 rfl (by unfold tf at *; unfold wrongAt stands badParts far; grind)
                  · exact fin _ [] rfl (by grind) (by grind) (by grind) (by grind) (by unfold tf at *; unfold badParts; grind)
                · refine rX8_isWrong_182 h (fun q50 => ?_) (fun q51 q52 => ?_) (fun q53 q54 => ?_)
                  · refine rX8_isWrong_210 h ?_
                    exact J_iret h dX8_isWrong_211 rfl (by unfold tf at *; unfold wrongAt stands badParts far; grind)
                  · refine rX8_isWrong_210 h ?_
                    exact J_iret h dX8_isWrong_211 rfl (by unfold tf at *; unfold wrongAt stands badParts far; grind)
                  · exact fin _ [] rfl (by grind) (by grind) (by grind) (by grind) (by unfold tf at *; unfold badParts; grind)
                · refine rX8_isWrong_180 h ?_
                  exact J_iret h dX8_isWrong_181 rfl (by unfold tf at *; unfold wrongAt stands badParts far; grind)
              · refine rX8_isWrong_180 h ?_
                exact J_iret h dX8_isWrong_181 rfl (by unfold tf at *; unfold wrongAt stands badParts far; grind)
              · refine rX8_isWrong_168 h (fun q55 => ?_) (fun q56 q57 => ?_) (fun q58 q59 => ?_)
                · refine rX8_isWrong_182 h (fun q60 => ?_) (fun q61 q62 => ?_) (fun q63 q64 => ?_)
                  · refine rX8_isWrong_210 h ?_
                    exact J_iret h dX8_isWrong_211 rfl (by unfold tf at *; unfold wrongAt stands badParts far; grind)
                  · refine rX8_isWrong_210 h ?_
                    exact J_iret h dX8_isWrong_211 rfl (by unfold tf at *; unfold wrongAt stands badParts far; grind)
                  · exact fin _ [] rfl (by grind) (by grind) (by grind) (by grind) (by unfold tf at *; unfold badParts; grind)
                · refine rX8_isWrong_182 h (fun q65 => ?_) (fun q66 q67 => ?_) (fun q68 q69 => ?_)
                  · refine rX8_isWrong_210 h ?_
                    exact J_iret h dX8_isWrong_211 rfl (by unfold tf at *; unfold wrongAt stands badParts far; grind)
                  · refine rX8_isWrong_210 h ?_
                    exact J_iret h dX8_isWrong_211 rfl (by unfold tf at *; unfold wrongAt stands badParts far; grind)
                  · exact fin _ [] rfl (by grind) (by grind) (by grind) (by grind) (by unfold tf at *; unfold badParts; grind)
                · refine rX8_isWrong_180 h ?_
                  exact J_iret h dX8_isWrong_181 rfl (by unfold tf at *; unfold wrongAt stands badParts far; grind)
            · refine rX8_isWrong_130 h (fun q70 => ?_) (fun q71 q72 => ?_) (fun q73 q74 q75 => ?_) (fun q76 q77 q78 q79 => ?_) (fun q80 q81 q82 q83 => ?_)
              · refine rX8_isWrong_180 h ?_
                exact J_iret h dX8_isWrong_181 rfl (by unfold tf at *; unfold wrongAt stands badParts far; grind)
              · refine rX8_isWrong_180 h ?_
                exact J_iret h dX8_isWrong_181 rfl (by unfold tf at *; unfold wrongAt stands badParts far; grind)
              · refine rX8_isWrong_168 h (fun q84 => ?_) (fun q85 q86 => ?_) (fun q87 q88 => ?_)
                · refine rX8_isWrong_182 h (fun q89 => ?_) (fun q90 q91 => ?_) (fun q92 q93 => ?_)
                  · refine rX8_isWrong_210 h ?_
                    exact J_iret h dX8_isWrong_211 rfl (by unfold tf at *; unfold wrongAt stands badParts far; grind)
                  · refine rX8_isWrong_210 h ?_
                    exact J_iret h dX8_isWrong_211 rfl (by unfold tf at *; unfold wrongAt stands badParts far; grind)
                  · exact fin _ [] rfl (by grind) (by grind) (by grind) (by grind) (by unfold tf at *; unfold badParts; grind)
                · refine rX8_isWrong_182 h (fun q94 => ?_) (fun q95 q96 => ?_) (fun q97 q98 => ?_)
                  · refine rX8_isWrong_210 h ?_
                    exact J_iret h dX8_isWrong_211 rfl (by unfold tf at *; unfold wrongAt stands badParts far; grind)
                  · refine rX8_isWrong_210 h ?_
                    exact J_iret h dX8_isWrong_211 rfl (by unfold tf at *; unfold wrongAt stands badParts far; grind)
                  · exact fin _ [] rfl (by grind) (by grind) (by grind) (by grind) (by unfold tf at *; unfold badParts; grind)
                · refine rX8_isWrong_180 h ?_
                  exact J_iret h dX8_isWrong_181 rfl (by unfold tf at *; unfold wrongAt stands badParts far; grind)
              · refine rX8_isWrong_180 h ?_
                exact J_iret h dX8_isWrong_181 rfl (by unfold tf at *; unfold wrongAt stands badParts far; grind)
              · refine rX8_isWrong_168 h (fun q99 => ?_) (fun q100 q101 => ?_) (fun q102 q103 => ?_)
                · refine rX8_isWrong_182 h (fun q104 => ?_) (fun q105 q106 => ?_) (fun q107 q108 => ?_)
                  · refine rX8_isWrong_210 h ?_
                    exact J_iret h dX8_isWrong_211 rfl (by unfold tf at *; unfold wrongAt stands badParts far; grind)
                  · refine rX8_isWrong_210 h ?_
                    exact J_iret h dX8_isWrong_211 rfl (by unfold tf at *; unfold wrongAt stands badParts far; grind)
                  · exact fin _ [] rfl (by grind) (by grind) (by grind) (by grind) (by unfold tf at *; unfold badParts; grind)
                · refine rX8_isWrong_182 h (fun q109 => ?_) (fun q110 q111 => ?_) (fun q112 q113 => ?_)
                  · refine rX8_isWrong_210 h ?_
                    exact J_iret h dX8_isWrong_211 rfl (by unfold tf at *; unfold wrongAt stands badParts far; grind)
                  · refine rX8_isWrong_210 h ?_
                    exact J_iret h dX8_isWrong_211 rfl (by unfold tf at *; unfold wrongAt stands badParts far; grind)
                  · exact fin _ [] rfl (by grind) (by grind) (by grind) (by grind) (by unfold tf at *; unfold badParts; grind)
                · refine rX8_isWrong_180 h ?_
                  exact J_iret h dX8_isWrong_181 rfl (by unfold tf at *; unfold wrongAt stands badParts far; grind)
            · exact J_iret h dX8_isWrong_129 rfl (by unfold tf at *; unfold wrongAt stands badParts far; grind)
          · refine rX8_isWrong_116 h (fun q114 => ?_) (fun q115 q116 => ?_) (fun q117 q118 => ?_)
            · refine rX8_isWrong_130 h (fun q119 => ?_) (fun q120 q121 => ?_) (fun q122 q123 q124 => ?_) (fun q125 q126 q127 q128 => ?_) (fun q129 q130 q131 q132 => ?_)
              · refine rX8_isWrong_180 h ?_
                exact J_iret h dX8_isWrong_181 rfl (by unfold tf at *; unfold wrongAt stands badParts far; grind)
              · refine rX8_isWrong_180 h ?_
                exact J_iret h dX8_isWrong_181 rfl (by unfold tf at *; unfold wrongAt stands badParts far; grind)
              · refine rX8_isWrong_168 h (fun q133 => ?_) (fun q134 q135 => ?_) (fun q136 q137 => ?_)
                · refine rX8_isWrong_182 h (fun q138 => ?_) (fun q139 q140 => ?_) (fun q141 q142 => ?_)
                  · refine rX8_isWrong_210 h ?_
                    exact J_iret h dX8_isWrong_211 rfl (by unfold tf at *; unfold wrongAt stands badParts far; grind)
                  · refine rX8_isWrong_210 h ?_
                    exact J_iret h dX8_isWrong_211 rfl (by unfold tf at *; unfold wrongAt stands badParts far; grind)
                  · exact fin _ [] rfl (by grind) (by grind) (by grind) (by grind) (by unfold tf at *; unfold badParts; grind)
                · refine rX8_isWrong_182 h (fun q143 => ?_) (fun q144 q145 => ?_) (fun q146 q147 => ?_)
                  · refine rX8_isWrong_210 h ?_
                    exact J_iret h dX8_isWrong_211 rfl (by unfold tf at *; unfold wrongAt stands badParts far; grind)
                  · refine rX8_isWrong_210 h ?_
                    exact J_iret h dX8_isWrong_211 rfl (by unfold tf at *; unfold wrongAt stands badParts far; grind)
                  · exact fin _ [] rfl (by grind) (by grind) (by grind) (by grind) (by unfold tf at *; unfold badParts; grind)
                · refine rX8_isWrong_180 h ?_
                  exact J_iret h dX8_isWrong_181 rfl (by unfold tf at *; unfold wrongAt stands badParts far; grind)
              · refine rX8_isWrong_180 h ?_
                exact J_iret h dX8_isWrong_181 rfl (by unfold tf at *; unfold wrongAt stands badParts far; grind)
              · refine rX8_isWrong_168 h (fun q148 => ?_) (fun q149 q150 => ?_) (fun q151 q152 => ?_)
                · refine rX8_isWrong_182 h (fun q153 => ?_) (fun q154 q155 => ?_) (fun q156 q157 => ?_)
                  · refine rX8_isWrong_210 h ?_
                    exact J_iret h dX8_isWrong_211 rfl (by unfold tf at *; unfold wrongAt stands badParts far; grind)
                  · refine rX8_isWrong_210 h ?_
                    exact J_iret h dX8_isWrong_211 rfl (by unfold tf at *; unfold wrongAt stands badParts far; grind)
                  · exact fin _ [] rfl (by grind) (by grind) (by grind) (by grind) (by unfold tf at *; unfold badParts; grind)
                · refine rX8_isWrong_182 h (fun q158 => ?_) (fun q159 q160 => ?_) (fun q161 q162 => ?_)
                  · refine rX8_isWrong_210 h ?_
                    exact J_iret h dX8_isWrong_211 rfl (by unfold tf at *; unfold wrongAt stands badParts far; grind)
                  · refine rX8_isWrong_210 h ?_
                    exact J_iret h dX8_isWrong_211 rfl (by unfold tf at *; unfold wrongAt stands badParts far; grind)
                  · exact fin _ [] rfl (by grind) (by grind) (by grind) (by grind) (by unfold tf at *; unfold badParts; grind)
                · refine rX8_isWrong_180 h ?_
                  exact J_iret h dX8_isWrong_181 rfl (by unfold tf at *; unfold wrongAt stands badParts far; grind)
            · refine rX8_isWrong_130 h (fun q163 => ?_) (fun q164 q165 => ?_) (fun q166 q167 q168 => ?_) (fun q169 q170 q171 q172 => ?_) (fun q173 q174 q175 q176 => ?_)
              · refine rX8_isWrong_180 h ?_
                exact J_iret h dX8_isWrong_181 rfl (by unfold tf at *; unfold wrongAt stands badParts far; grind)
              · refine rX8_isWrong_180 h ?_
                exact J_iret h dX8_isWrong_181 rfl (by unfold tf at *; unfold wrongAt stands badParts far; grind)
              · refine rX8_isWrong_168 h (fun q177 => ?_) (fun q178 q179 => ?_) (fun q180 q181 => ?_)
                · refine rX8_isWrong_182 h (fun q182 => ?_) (fun q183 q184 => ?_) (fun q185 q186 => ?_)
                  · refine rX8_isWrong_210 h ?_
                    exact J_iret h dX8_isWrong_211 rfl (by unfold tf at *; unfold wrongAt stands badParts far; grind)
                  · refine rX8_isWrong_210 h ?_
                    exact J_iret h dX8_isWrong_211 rfl (by unfold tf at *; unfold wrongAt stands badParts far; grind)
                  · exact fin _ [] rfl (by grind) (by grind) (by grind) (by grind) (by unfold tf at *; unfold badParts; grind)
                · refine rX8_isWrong_182 h (fun q187 => ?_) (fun q188 q189 => ?_) (fun q190 q191 => ?_)
                  · refine rX8_isWrong_210 h ?_
                    exact J_iret h dX8_isWrong_211 rfl (by unfold tf at *; unfold wrongAt stands badParts far; grind)
                  · refine rX8_isWrong_210 h ?_
                    exact J_iret h dX8_isWrong_211 rfl (by unfold tf at *; unfold wrongAt stands badParts far; grind)
                  · exact fin _ [] rfl (by grind) (by grind) (by grind) (by grind) (by unfold tf at *; unfold badParts; grind)
                · refine rX8_isWrong_180 h ?_
                  exact J_iret h dX8_isWrong_181 rfl (by unfold tf at *; unfold wrongAt stands badParts far; grind)
              · refine rX8_isWrong_180 h ?_
                exact J_iret h dX8_isWrong_181 rfl (by unfold tf at *; unfold wrongAt stands badParts far; grind)
              · refine rX8_isWrong_168 h (fun q192 => ?_) (fun q193 q194 => ?_) (fun q195 q196 => ?_)
                · refine rX8_isWrong_182 h (fun q197 => ?_) (fun q198 q199 => ?_) (fun q200 q201 => ?_)
                  · refine rX8_isWrong_210 h ?_
                    exact J_iret h dX8_isWrong_211 rfl (by unfold tf at *; unfold wrongAt stands badParts far; grind)
                  · refine rX8_isWrong_210 h ?_
                    exact J_iret h dX8_isWrong_211 rfl (by unfold tf at *; unfold wrongAt stands badParts far; grind)
                  · exact fin _ [] rfl (by grind) (by grind) (by grind) (by grind) (by unfold tf at *; unfold badParts; grind)
                · refine rX8_isWrong_182 h (fun q202 => ?_) (fun q203 q204 => ?_) (fun q205 q206 => ?_)
                  · refine rX8_isWrong_210 h ?_
                    exact J_iret h dX8_isWrong_211 rfl (by unfold tf at *; unfold wrongAt stands badParts far; grind)
                  · refine rX8_isWrong_210 h ?_
                    exact J_iret h dX8_isWrong_211 rfl (by unfold tf at *; unfold wrongAt stands badParts far; grind)
                  · exact fin _ [] rfl (by grind) (by grind) (by grind) (by grind) (by unfold tf at *; unfold badParts; grind)
                · refine rX8_isWrong_180 h ?_
                  exact J_iret h dX8_isWrong_181 rfl (by unfold tf at *; unfold wrongAt stands badParts far; grind)
            · exact J_iret h dX8_isWrong_129 rfl (by unfold tf at *; unfold wrongAt stands badParts far; grind)
          · exact J_iret h dX8_isWrong_115 rfl (by unfold tf at *; unfold wrongAt stands badParts far; grind)
          · exact J_iret h dX8_isWrong_115 rfl (by unfold tf at *; unfold wrongAt stands badParts far; grind)
        · refine rX8_isWrong_84 h (k_isRegT hl hG _) (by decide) (Nat.zero_le _) (fun v m1 e1 => ?_)
          obtain ⟨e1, rfl⟩ := e1
          refine rX8_isWrong_87 h (fun q207 => ?_) (fun q208 => ?_)
          · refine rX8_isWrong_92 h (fun q209 => ?_) (fun q210 q211 => ?_) (fun q212 q213 q214 => ?_) (fun q215 q216 q217 => ?_)
            · refine rX8_isWrong_116 h (fun q218 => ?_) (fun q219 q220 => ?_) (fun q221 q222 => ?_)
              · refine rX8_isWrong_130 h (fun q223 => ?_) (fun q224 q225 => ?_) (fun q226 q227 q228 => ?_) (fun q229 q230 q231 q232 => ?_) (fun q233 q234 q235 q236 => ?_)
                · refine rX8_isWrong_180 h ?_
                  exact J_iret h dX8_isWrong_181 rfl (by unfold tf at *; unfold wrongAt stands badParts far; grind)
                · refine rX8_isWrong_180 h ?_
                  exact J_iret h dX8_isWrong_181 rfl (by unfold tf at *; unfold wrongAt stands badParts far; grind)
                · refine rX8_isWrong_168 h (fun q237 => ?_) (fun q238 q239 => ?_) (fun q240 q241 => ?_)
                  · refine rX8_isWrong_182 h (fun q242 => ?_) (fun q243 q244 => ?_) (fun q245 q246 => ?_)
                    · refine rX8_isWrong_210 h ?_
                      exact J_iret h dX8_isWrong_211 rfl (by unfold tf at *; unfold wrongAt stands badParts far; grind)
                    · refine rX8_isWrong_210 h ?_
                      exact J_iret h dX8_isWrong_211 rfl (by unfold tf at *; unfold wrongAt stands badParts far; grind)
                    · exact fin _ [] rfl (by grind) (by grind) (by grind) (by grind) (by unfold tf at *; unfold badParts; grind)
                  · refine rX8_isWrong_182 h (fun q247 => ?_) (fun q248 q249 => ?_) (fun q250 q251 => ?_)
                    · refine rX8_isWrong_210 h ?_
                      exact J_iret h dX8_isWrong_211 rfl (by unfold tf at *; unfold wrongAt stands badParts far; grind)
                    · refine rX8_isWrong_210 h ?_
                      exact J_iret h dX8_isWrong_211 rfl (by unfold tf at *; unfold wrongAt stands badParts far; grind)
                    · exact fin _ [] rfl (by grind) (by grind) (by grind) (by grind) (by unfold tf at *; unfold badParts; grind)
                  · refine rX8_isWrong_180 h ?_
                    exact J_iret h dX8_isWrong_181 rfl (by unfold tf at *; unfold wrongAt stands badParts far; grind)
                · refine rX8_isWrong_180 h ?_
                  exact J_iret h dX8_isWrong_181 rfl (by unfold tf at *; unfold wrongAt stands badParts far; grind)
                · refine rX8_isWrong_168 h (fun q252 => ?_) (fun q253 q254 => ?_) (fun q255 q256 => ?_)
                  · refine rX8_isWrong_182 h (fun q257 => ?_) (fun q258 q259 => ?_) (fun q260 q261 => ?_)
                    · refine rX8_isWrong_210 h ?_
                      exact J_iret h dX8_isWrong_211 rfl (by unfold tf at *; unfold wrongAt stands badParts far; grind)
                    · refine rX8_isWrong_210 h ?_
                      exact J_iret h dX8_isWrong_211 rfl (by unfold tf at *; unfold wrongAt stands badParts far; grind)
                    · exact fin _ [] rfl (by grind) (by grind) (by grind) (by grind) (by unfold tf at *; unfold badParts; grind)
                  · refine rX8_isWrong_182 h (fun q262 => ?_) (fun q263 q264 => ?_) (fun q265 q266 => ?_)
                    · refine rX8_isWrong_210 h ?_
                      exact J_iret h dX8_isWrong_211 rfl (by unfold tf at *; unfold wrongAt stands badParts far; grind)
                    · refine rX8_isWrong_210 h ?_
                      exact J_iret h dX8_isWrong_211 rfl (by unfold tf at *; unfold wrongAt stands badParts far; grind)
                    · exact fin _ [] rfl (by grind) (by grind) (by grind) (by grind) (by unfold tf at *; unfold badParts; grind)
                  · refine rX8_isWrong_180 h ?_
                    exact J_iret h dX8_isWrong_181 rfl (by unfold tf at *; unfold wrongAt stands badParts far; grind)
              · refine rX8_isWrong_130 h (fun q267 => ?_) (fun q268 q269 => ?_) (fun q270 q271 q272 => ?_) (fun q273 q274 q275 q276 => ?_) (fun q277 q278 q279 q280 => ?_)
                · refine rX8_isWrong_180 h ?_
                  exact J_iret h dX8_isWrong_181 rfl (by unfold tf at *; unfold wrongAt stands badParts far; grind)
                · refine rX8_isWrong_180 h ?_
                  exact J_iret h dX8_isWrong_181 rfl (by unfold tf at *; unfold wrongAt stands badParts far; grind)
                · refine rX8_isWrong_168 h (fun q281 => ?_) (fun q282 q283 => ?_) (fun q284 q285 => ?_)
                  · refine rX8_isWrong_182 h (fun q286 => ?_) (fun q287 q288 => ?_) (fun q289 q290 => ?_)
                    · refine rX8_isWrong_210 h ?_
                      exact J_iret h dX8_isWrong_211 rfl (by unfold tf at *; unfold wrongAt stands badParts far; grind)
                    · refine rX8_isWrong_210 h ?_
                      exact J_iret h dX8_isWrong_211 rfl (by unfold tf at *; unfold wrongAt stands badParts far; grind)
                    · exact fin _ [] rfl (by grind) (by grind) (by grind) (by grind) (by unfold tf at *; unfold badParts; grind)
                  · refine rX8_isWrong_182 h (fun q291 => ?_) (fun q292 q293 => ?_) (fun q294 q295 => ?_)
                    · refine rX8_isWrong_210 h ?_
                      exact J_iret h dX8_isWrong_211 rfl (by unfold tf at *; unfold wrongAt stands badParts far; grind)
                    · refine rX8_isWrong_210 h ?_
                      exact J_iret h dX8_isWrong_211 rfl (by unfold tf at *; unfold wrongAt stands badParts far; grind)
                    · exact fin _ [] rfl (by grind) (by grind) (by grind) (by grind) (by unfold tf at *; unfold badParts; grind)
                  · refine rX8_isWrong_180 h ?_
                    exact J_iret h dX8_isWrong_181 rfl (by unfold tf at *; unfold wrongAt stands badParts far; grind)
                · refine rX8_isWrong_180 h ?_
                  exact J_iret h dX8_isWrong_181 rfl (by unfold tf at *; unfold wrongAt stands badParts far; grind)
                · refine rX8_isWrong_168 h (fun q296 => ?_) (fun q297 q298 => ?_) (fun q299 q300 => ?_)
                  · refine rX8_isWrong_182 h (fun q301 => ?_) (fun q302 q303 => ?_) (fun q304 q305 => ?_)
                    · refine rX8_isWrong_210 h ?_
                      exact J_iret h dX8_isWrong_211 rfl (by unfold tf at *; unfold wrongAt stands badParts far; grind)
                    · refine rX8_isWrong_210 h ?_
                      exact J_iret h dX8_isWrong_211 rfl (by unfold tf at *; unfold wrongAt stands badParts far; grind)
                    · exact fin _ [] rfl (by grind) (by grind) (by grind) (by grind) (by unfold tf at *; unfold badParts; grind)
                  · refine rX8_isWrong_182 h (fun q306 => ?_) (fun q307 q308 => ?_) (fun q309 q310 => ?_)
                    · refine rX8_isWrong_210 h ?_
                      exact J_iret h dX8_isWrong_211 rfl (by unfold tf at *; unfold wrongAt stands badParts far; grind)
                    · refine rX8_isWrong_210 h ?_
                      exact J_iret h dX8_isWrong_211 rfl (by unfold tf at *; unfold wrongAt stands badParts far; grind)
                    · exact fin _ [] rfl (by grind) (by grind) (by grind) (by grind) (by unfold tf at *; unfold badParts; grind)
                  · refine rX8_isWrong_180 h ?_
                    exact J_iret h dX8_isWrong_181 rfl (by unfold tf at *; unfold wrongAt stands badParts far; grind)
              · exact J_iret h dX8_isWrong_129 rfl (by unfold tf at *; unfold wrongAt stands badParts far; grind)
            · refine rX8_isWrong_116 h (fun q311 => ?_) (fun q312 q313 => ?_) (fun q314 q315 => ?_)
              · refine rX8_isWrong_130 h (fun q316 => ?_) (fun q317 q318 => ?_) (fun q319 q320 q321 => ?_) (fun q322 q323 q324 q325 => ?_) (fun q326 q327 q328 q329 => ?_)
                · refine rX8_isWrong_180 h ?_
                  exact J_iret h dX8_isWrong_181 rfl (by unfold tf at *; unfold wrongAt stands badParts far; grind)
                · refine rX8_isWrong_180 h ?_
                  exact J_iret h dX8_isWrong_181 rfl (by unfold tf at *; unfold wrongAt stands badParts far; grind)
                · refine rX8_isWrong_168 h (fun q330 => ?_) (fun q331 q332 => ?_) (fun q333 q334 => ?_)
                  · refine rX8_isWrong_182 h (fun q335 => ?_) (fun q336 q337 => ?_) (fun q338 q339 => ?_)
                    · refine rX8_isWrong_210 h ?_
                      exact J_iret h dX8_isWrong_211 rfl (by unfold tf at *; unfold wrongAt stands badParts far; grind)
                    · refine rX8_isWrong_210 h ?_
                      exact J_iret h dX8_isWrong_211 rfl (by unfold tf at *; unfold wrongAt stands badParts far; grind)
                    · exact fin _ [] rfl (by grind) (by grind) (by grind) (by grind) (by unfold tf at *; unfold badParts; grind)
                  · refine rX8_isWrong_182 h (fun q340 => ?_) (fun q341 q342 => ?_) (fun q343 q344 => ?_)
                    · refine rX8_isWrong_210 h ?_
                      exact J_iret h dX8_isWrong_211 rfl (by unfold tf at *; unfold wrongAt stands badParts far; grind)
                    · refine rX8_isWrong_210 h ?_
                      exact J_iret h dX8_isWrong_211 rfl (by unfold tf at *; unfold wrongAt stands badParts far; grind)
                    · exact fin _ [] rfl (by grind) (by grind) (by grind) (by grind) (by unfold tf at *; unfold badParts; grind)
                  · refine rX8_isWrong_180 h ?_
                    exact J_iret h dX8_isWrong_181 rfl (by unfold tf at *; unfold wrongAt stands badParts far; grind)
                · refine rX8_isWrong_180 h ?_
                  exact J_iret h dX8_isWrong_181 rfl (by unfold tf at *; unfold wrongAt stands badParts far; grind)
                · refine rX8_isWrong_168 h (fun q345 => ?_) (fun q346 q347 => ?_) (fun q348 q349 => ?_)
                  · refine rX8_isWrong_182 h (fun q350 => ?_) (fun q351 q352 => ?_) (fun q353 q354 => ?_)
                    · refine rX8_isWrong_210 h ?_
                      exact J_iret h dX8_isWrong_211 rfl (by unfold tf at *; unfold wrongAt stands badParts far; grind)
                    · refine rX8_isWrong_210 h ?_
                      exact J_iret h dX8_isWrong_211 rfl (by unfold tf at *; unfold wrongAt stands badParts far; grind)
                    · exact fin _ [] rfl (by grind) (by grind) (by grind) (by grind) (by unfold tf at *; unfold badParts; grind)
                  · refine rX8_isWrong_182 h (fun q355 => ?_) (fun q356 q357 => ?_) (fun q358 q359 => ?_)
                    · refine rX8_isWrong_210 h ?_
                      exact J_iret h dX8_isWrong_211 rfl (by unfold tf at *; unfold wrongAt stands badParts far; grind)
                    · refine rX8_isWrong_210 h ?_
                      exact J_iret h dX8_isWrong_211 rfl (by unfold tf at *; unfold wrongAt stands badParts far; grind)
                    · exact fin _ [] rfl (by grind) (by grind) (by grind) (by grind) (by unfold tf at *; unfold badParts; grind)
                  · refine rX8_isWrong_180 h ?_
                    exact J_iret h dX8_isWrong_181 rfl (by unfold tf at *; unfold wrongAt stands badParts far; grind)
              · refine rX8_isWrong_130 h (fun q360 => ?_) (fun q361 q362 => ?_) (fun q363 q364 q365 => ?_) (fun q366 q367 q368 q369 => ?_) (fun q370 q371 q372 q373 => ?_)
                · refine rX8_isWrong_180 h ?_
                  exact J_iret h dX8_isWrong_181 rfl (by unfold tf at *; unfold wrongAt stands badParts far; grind)
                · refine rX8_isWrong_180 h ?_
                  exact J_iret h dX8_isWrong_181 rfl (by unfold tf at *; unfold wrongAt stands badParts far; grind)
                · refine rX8_isWrong_168 h (fun q374 => ?_) (fun q375 q376 => ?_) (fun q377 q378 => ?_)
                  · refine rX8_isWrong_182 h (fun q379 => ?_) (fun q380 q381 => ?_) (fun q382 q383 => ?_)
                    · refine rX8_isWrong_210 h ?_
                      exact J_iret h dX8_isWrong_211 rfl (by unfold tf at *; unfold wrongAt stands badParts far; grind)
                    · refine rX8_isWrong_210 h ?_
                      exact J_iret h dX8_isWrong_211 rfl (by unfold tf at *; unfold wrongAt stands badParts far; grind)
                    · exact fin _ [] rfl (by grind) (by grind) (by grind) (by grind) (by unfold tf at *; unfold badParts; grind)
                  · refine rX8_isWrong_182 h (fun q384 => ?_) (fun q385 q386 => ?_) (fun q387 q388 => ?_)
                    · refine rX8_isWrong_210 h ?_
                      exact J_iret h dX8_isWrong_211 rfl (by unfold tf at *; unfold wrongAt stands badParts far; grind)
                    · refine rX8_isWrong_210 h ?_
                      exact J_iret h dX8_isWrong_211 rfl (by unfold tf at *; unfold wrongAt stands badParts far; grind)
                    · exact fin _ [] rfl (by grind) (by grind) (by grind) (by grind) (by unfold tf at *; unfold badParts; grind)
                  · refine rX8_isWrong_180 h ?_
                    exact J_iret h dX8_isWrong_181 rfl (by unfold tf at *; unfold wrongAt stands badParts far; grind)
                · refine rX8_isWrong_180 h ?_
                  exact J_iret h dX8_isWrong_181 rfl (by unfold tf at *; unfold wrongAt stands badParts far; grind)
                · refine rX8_isWrong_168 h (fun q389 => ?_) (fun q390 q391 => ?_) (fun q392 q393 => ?_)
                  · refine rX8_isWrong_182 h (fun q394 => ?_) (fun q395 q396 => ?_) (fun q397 q398 => ?_)
                    · refine rX8_isWrong_210 h ?_
                      exact J_iret h dX8_isWrong_211 rfl (by unfold tf at *; unfold wrongAt stands badParts far; grind)
                    · refine rX8_isWrong_210 h ?_
                      exact J_iret h dX8_isWrong_211 rfl (by unfold tf at *; unfold wrongAt stands badParts far; grind)
                    · exact fin _ [] rfl (by grind) (by grind) (by grind) (by grind) (by unfold tf at *; unfold badParts; grind)
                  · refine rX8_isWrong_182 h (fun q399 => ?_) (fun q400 q401 => ?_) (fun q402 q403 => ?_)
                    · refine rX8_isWrong_210 h ?_
                      exact J_iret h dX8_isWrong_211 rfl (by unfold tf at *; unfold wrongAt stands badParts far; grind)
                    · refine rX8_isWrong_210 h ?_
                      exact J_iret h dX8_isWrong_211 rfl (by unfold tf at *; unfold wrongAt stands badParts far; grind)
                    · exact fin _ [] rfl (by grind) (by grind) (by grind) (by grind) (by unfold tf at *; unfold badParts; grind)
                  · refine rX8_isWrong_180 h ?_
                    exact J_iret h dX8_isWrong_181 rfl (by unfold tf at *; unfold wrongAt stands badParts far; grind)
              · exact J_iret h dX8_isWrong_129 rfl (by unfold tf at *; unfold wrongAt stands badParts far; grind)
            · exact J_iret h dX8_isWrong_115 rfl (by unfold tf at *; unfold wrongAt stands badParts far; grind)
            · exact J_iret h dX8_isWrong_115 rfl (by unfold tf at *; unfold wrongAt stands badParts far; grind)
          · refine rX8_isWrong_90 h ?_
            exact J_iret h dX8_isWrong_91 rfl (by unfold tf at *; unfold wrongAt stands badParts far; grind)
      · refine rX8_isWrong_61 h (k_isRegT hl hG _) (by decide) (Nat.zero_le _) (fun v m1 e1 => ?_)
        obtain ⟨e1, rfl⟩ := e1
        refine rX8_isWrong_64 h (fun q404 => ?_) (fun q405 => ?_)
        · refine rX8_isWrong_90 h ?_
          exact J_iret h dX8_isWrong_91 rfl (by unfold tf at *; unfold wrongAt stands badParts far; grind)
        · refine rX8_isWrong_67 h ?_
          refine rX8_isWrong_68 h (k_usesB hl hG _) (by decide) (Nat.zero_le _) (fun v m1 e1 => ?_)
          obtain ⟨e1, rfl⟩ := e1
          refine rX8_isWrong_71 h (fun _ => by first | exact s1 | exact s3) (fun q406 => ?_) (fun q407 => ?_)
          · refine rX8_isWrong_92 h (fun q408 => ?_) (fun q409 q410 => ?_) (fun q411 q412 q413 => ?_) (fun q414 q415 q416 => ?_)
            · refine rX8_isWrong_116 h (fun q417 => ?_) (fun q418 q419 => ?_) (fun q420 q421 => ?_)
              · refine rX8_isWrong_130 h (fun q422 => ?_) (fun q423 q424 => ?_) (fun q425 q426 q427 => ?_) (fun q428 q429 q430 q431 => ?_) (fun q432 q433 q434 q435 => ?_)
                · refine rX8_isWrong_180 h ?_
                  exact J_iret h dX8_isWrong_181 rfl (by unfold tf at *; unfold wrongAt stands badParts far; grind)
                · refine rX8_isWrong_180 h ?_
                  exact J_iret h dX8_isWrong_181 rfl (by unfold tf at *; unfold wrongAt stands badParts far; grind)
                · refine rX8_isWrong_168 h (fun q436 => ?_) (fun q437 q438 => ?_) (fun q439 q440 => ?_)
                  · refine rX8_isWrong_182 h (fun q441 => ?_) (fun q442 q443 => ?_) (fun q444 q445 => ?_)
                    · refine rX8_isWrong_210 h ?_
                      exact J_iret h dX8_isWrong_211 rfl (by unfold tf at *; unfold wrongAt stands badParts far; grind)
                    · refine rX8_isWrong_210 h ?_
                      exact J_iret h dX8_isWrong_211 rfl (by unfold tf at *; unfold wrongAt stands badParts far; grind)
                    · exact fin _ [] rfl (by grind) (by grind) (by grind) (by grind) (by unfold tf at *; unfold badParts; grind)
                  · refine rX8_isWrong_182 h (fun q446 => ?_) (fun q447 q448 => ?_) (fun q449 q450 => ?_)
                    · refine rX8_isWrong_210 h ?_
                      exact J_iret h dX8_isWrong_211 rfl (by unfold tf at *; unfold wrongAt stands badParts far; grind)
                    · refine rX8_isWrong_210 h ?_
                      exact J_iret h dX8_isWrong_211 rfl (by unfold tf at *; unfold wrongAt stands badParts far; grind)
                    · exact fin _ [] rfl (by grind) (by grind) (by grind) (by grind) (by unfold tf at *; unfold badParts; grind)
                  · refine rX8_isWrong_180 h ?_
                    exact J_iret h dX8_isWrong_181 rfl (by unfold tf at *; unfold wrongAt stands badParts far; grind)
                · refine rX8_isWrong_180 h ?_
                  exact J_iret h dX8_isWrong_181 rfl (by unfold tf at *; unfold wrongAt stands badParts far; grind)
                · refine rX8_isWrong_168 h (fun q451 => ?_) (fun q452 q453 => ?_) (fun q454 q455 => ?_)
                  · refine rX8_isWrong_182 h (fun q456 => ?_) (fun q457 q458 => ?_) (fun q459 q460 => ?_)
                    · refine rX8_isWrong_210 h ?_
                      exact J_iret h dX8_isWrong_211 rfl (by unfold tf at *; unfold wrongAt stands badParts far; grind)
                    · refine rX8_isWrong_210 h ?_
                      exact J_iret h dX8_isWrong_211 rfl (by unfold tf at *; unfold wrongAt stands badParts far; grind)
                    · exact fin _ [] rfl (by grind) (by grind) (by grind) (by grind) (by unfold tf at *; unfold badParts; grind)
                  · refine rX8_isWrong_182 h (fun q461 => ?_) (fun q462 q463 => ?_) (fun q464 q465 => ?_)
                    · refine rX8_isWrong_210 h ?_
                      exact J_iret h dX8_isWrong_211 rfl (by unfold tf at *; unfold wrongAt stands badParts far; grind)
                    · refine rX8_isWrong_210 h ?_
                      exact J_iret h dX8_isWrong_211 rfl (by unfold tf at *; unfold wrongAt stands badParts far; grind)
                    · exact fin _ [] rfl (by grind) (by grind) (by grind) (by grind) (by unfold tf at *; unfold badParts; grind)
                  · refine rX8_isWrong_180 h ?_
                    exact J_iret h dX8_isWrong_181 rfl (by unfold tf at *; unfold wrongAt stands badParts far; grind)
              · refine rX8_isWrong_130 h (fun q466 => ?_) (fun q467 q468 => ?_) (fun q469 q470 q471 => ?_) (fun q472 q473 q474 q475 => ?_) (fun q476 q477 q478 q479 => ?_)
                · refine rX8_isWrong_180 h ?_
                  exact J_iret h dX8_isWrong_181 rfl (by unfold tf at *; unfold wrongAt stands badParts far; grind)
                · refine rX8_isWrong_180 h ?_
                  exact J_iret h dX8_isWrong_181 rfl (by unfold tf at *; unfold wrongAt stands badParts far; grind)
                · refine rX8_isWrong_168 h (fun q480 => ?_) (fun q481 q482 => ?_) (fun q483 q484 => ?_)
                  · refine rX8_isWrong_182 h (fun q485 => ?_) (fun q486 q487 => ?_) (fun q488 q489 => ?_)
                    · refine rX8_isWrong_210 h ?_
                      exact J_iret h dX8_isWrong_211 rfl (by unfold tf at *; unfold wrongAt stands badParts far; grind)
                    · refine rX8_isWrong_210 h ?_
                      exact J_iret h dX8_isWrong_211 rfl (by unfold tf at *; unfold wrongAt stands badParts far; grind)
                    · exact fin _ [] rfl (by grind) (by grind) (by grind) (by grind) (by unfold tf at *; unfold badParts; grind)
                  · refine rX8_isWrong_182 h (fun q490 => ?_) (fun q491 q492 => ?_) (fun q493 q494 => ?_)
                    · refine rX8_isWrong_210 h ?_
                      exact J_iret h dX8_isWrong_211 rfl (by unfold tf at *; unfold wrongAt stands badParts far; grind)
                    · refine rX8_isWrong_210 h ?_
                      exact J_iret h dX8_isWrong_211 rfl (by unfold tf at *; unfold wrongAt stands badParts far; grind)
                    · exact fin _ [] rfl (by grind) (by grind) (by grind) (by grind) (by unfold tf at *; unfold badParts; grind)
                  · refine rX8_isWrong_180 h ?_
                    exact J_iret h dX8_isWrong_181 rfl (by unfold tf at *; unfold wrongAt stands badParts far; grind)
                · refine rX8_isWrong_180 h ?_
                  exact J_iret h dX8_isWrong_181 rfl (by unfold tf at *; unfold wrongAt stands badParts far; grind)
                · refine rX8_isWrong_168 h (fun q495 => ?_) (fun q496 q497 => ?_) (fun q498 q499 => ?_)
                  · refine rX8_isWrong_182 h (fun q500 => ?_) (fun q501 q502 => ?_) (fun q503 q504 => ?_)
                    · refine rX8_isWrong_210 h ?_
                      exact J_iret h dX8_isWrong_211 rfl (by unfold tf at *; unfold wrongAt stands badParts far; grind)
                    · refine rX8_isWrong_210 h ?_
                      exact J_iret h dX8_isWrong_211 rfl (by unfold tf at *; unfold wrongAt stands badParts far; grind)
                    · exact fin _ [] rfl (by grind) (by grind) (by grind) (by grind) (by unfold tf at *; unfold badParts; grind)
                  · refine rX8_isWrong_182 h (fun q505 => ?_) (fun q506 q507 => ?_) (fun q508 q509 => ?_)
                    · refine rX8_isWrong_210 h ?_
                      exact J_iret h dX8_isWrong_211 rfl (by unfold tf at *; unfold wrongAt stands badParts far; grind)
                    · refine rX8_isWrong_210 h ?_
                      exact J_iret h dX8_isWrong_211 rfl (by unfold tf at *; unfold wrongAt stands badParts far; grind)
                    · exact fin _ [] rfl (by grind) (by grind) (by grind) (by grind) (by unfold tf at *; unfold badParts; grind)
                  · refine rX8_isWrong_180 h ?_
                    exact J_iret h dX8_isWrong_181 rfl (by unfold tf at *; unfold wrongAt stands badParts far; grind)
              · exact J_iret h dX8_isWrong_129 rfl (by unfold tf at *; unfold wrongAt stands badParts far; grind)
            · refine rX8_isWrong_116 h (fun q510 => ?_) (fun q511 q512 => ?_) (fun q513 q514 => ?_)
              · refine rX8_isWrong_130 h (fun q515 => ?_) (fun q516 q517 => ?_) (fun q518 q519 q520 => ?_) (fun q521 q522 q523 q524 => ?_) (fun q525 q526 q527 q528 => ?_)
                · refine rX8_isWrong_180 h ?_
                  exact J_iret h dX8_isWrong_181 rfl (by unfold tf at *; unfold wrongAt stands badParts far; grind)
                · refine rX8_isWrong_180 h ?_
                  exact J_iret h dX8_isWrong_181 rfl (by unfold tf at *; unfold wrongAt stands badParts far; grind)
                · refine rX8_isWrong_168 h (fun q529 => ?_) (fun q530 q531 => ?_) (fun q532 q533 => ?_)
                  · refine rX8_isWrong_182 h (fun q534 => ?_) (fun q535 q536 => ?_) (fun q537 q538 => ?_)
                    · refine rX8_isWrong_210 h ?_
                      exact J_iret h dX8_isWrong_211 rfl (by unfold tf at *; unfold wrongAt stands badParts far; grind)
                    · refine rX8_isWrong_210 h ?_
                      exact J_iret h dX8_isWrong_211 rfl (by unfold tf at *; unfold wrongAt stands badParts far; grind)
                    · exact fin _ [] rfl (by grind) (by grind) (by grind) (by grind) (by unfold tf at *; unfold badParts; grind)
                  · refine rX8_isWrong_182 h (fun q539 => ?_) (fun q540 q541 => ?_) (fun q542 q543 => ?_)
                    · refine rX8_isWrong_210 h ?_
                      exact J_iret h dX8_isWrong_211 rfl (by unfold tf at *; unfold wrongAt stands badParts far; grind)
                    · refine rX8_isWrong_210 h ?_
                      exact J_iret h dX8_isWrong_211 rfl (by unfold tf at *; unfold wrongAt stands badParts far; grind)
                    · exact fin _ [] rfl (by grind) (by grind) (by grind) (by grind) (by unfold tf at *; unfold badParts; grind)
                  · refine rX8_isWrong_180 h ?_
                    exact J_iret h dX8_isWrong_181 rfl (by unfold tf at *; unfold wrongAt stands badParts far; grind)
                · refine rX8_isWrong_180 h ?_
                  exact J_iret h dX8_isWrong_181 rfl (by unfold tf at *; unfold wrongAt stands badParts far; grind)
                · refine rX8_isWrong_168 h (fun q544 => ?_) (fun q545 q546 => ?_) (fun q547 q548 => ?_)
                  · refine rX8_isWrong_182 h (fun q549 => ?_) (fun q550 q551 => ?_) (fun q552 q553 => ?_)
                    · refine rX8_isWrong_210 h ?_
                      exact J_iret h dX8_isWrong_211 rfl (by unfold tf at *; unfold wrongAt stands badParts far; grind)
                    · refine rX8_isWrong_210 h ?_
                      exact J_iret h dX8_isWrong_211 rfl (by unfold tf at *; unfold wrongAt stands badParts far; grind)
                    · exact fin _ [] rfl (by grind) (by grind) (by grind) (by grind) (by unfold tf at *; unfold badParts; grind)
                  · refine rX8_isWrong_182 h (fun q554 => ?_) (fun q555 q556 => ?_) (fun q557 q558 => ?_)
                    · refine rX8_isWrong_210 h ?_
                      exact J_iret h dX8_isWrong_211 rfl (by unfold tf at *; unfold wrongAt stands badParts far; grind)
                    · refine rX8_isWrong_210 h ?_
                      exact J_iret h dX8_isWrong_211 rfl (by unfold tf at *; unfold wrongAt stands badParts far; grind)
                    · exact fin _ [] rfl (by grind) (by grind) (by grind) (by grind) (by unfold tf at *; unfold badParts; grind)
                  · refine rX8_isWrong_180 h ?_
                    exact J_iret h dX8_isWrong_181 rfl (by unfold tf at *; unfold wrongAt stands badParts far; grind)
              · refine rX8_isWrong_130 h (fun q559 => ?_) (fun q560 q561 => ?_) (fun q562 q563 q564 => ?_) (fun q565 q566 q567 q568 => ?_) (fun q569 q570 q571 q572 => ?_)
                · refine rX8_isWrong_180 h ?_
                  exact J_iret h dX8_isWrong_181 rfl (by unfold tf at *; unfold wrongAt stands badParts far; grind)
                · refine rX8_isWrong_180 h ?_
                  exact J_iret h dX8_isWrong_181 rfl (by unfold tf at *; unfold wrongAt stands badParts far; grind)
                · refine rX8_isWrong_168 h (fun q573 => ?_) (fun q574 q575 => ?_) (fun q576 q577 => ?_)
                  · refine rX8_isWrong_182 h (fun q578 => ?_) (fun q579 q580 => ?_) (fun q581 q582 => ?_)
                    · refine rX8_isWrong_210 h ?_
                      exact J_iret h dX8_isWrong_211 rfl (by unfold tf at *; unfold wrongAt stands badParts far; grind)
                    · refine rX8_isWrong_210 h ?_
                      exact J_iret h dX8_isWrong_211 rfl (by unfold tf at *; unfold wrongAt stands badParts far; grind)
                    · exact fin _ [] rfl (by grind) (by grind) (by grind) (by grind) (by unfold tf at *; unfold badParts; grind)
                  · refine rX8_isWrong_182 h (fun q583 => ?_) (fun q584 q585 => ?_) (fun q586 q587 => ?_)
                    · refine rX8_isWrong_210 h ?_
                      exact J_iret h dX8_isWrong_211 rfl (by unfold tf at *; unfold wrongAt stands badParts far; grind)
                    · refine rX8_isWrong_210 h ?_
                      exact J_iret h dX8_isWrong_211 rfl (by unfold tf at *; unfold wrongAt stands badParts far; grind)
                    · exact fin _ [] rfl (by grind) (by grind) (by grind) (by grind) (by unfold tf at *; unfold badParts; grind)
                  · refine rX8_isWrong_180 h ?_
                    exact J_iret h dX8_isWrong_181 rfl (by unfold tf at *; unfold wrongAt stands badParts far; grind)
                · refine rX8_isWrong_180 h ?_
                  exact J_iret h dX8_isWrong_181 rfl (by unfold tf at *; unfold wrongAt stands badParts far; grind)
                · refine rX8_isWrong_168 h (fun q588 => ?_) (fun q589 q590 => ?_) (fun q591 q592 => ?_)
                  · refine rX8_isWrong_182 h (fun q593 => ?_) (fun q594 q595 => ?_) (fun q596 q597 => ?_)
                    · refine rX8_isWrong_210 h ?_
                      exact J_iret h dX8_isWrong_211 rfl (by unfold tf at *; unfold wrongAt stands badParts far; grind)
                    · refine rX8_isWrong_210 h ?_
                      exact J_iret h dX8_isWrong_211 rfl (by unfold tf at *; unfold wrongAt stands badParts far; grind)
                    · exact fin _ [] rfl (by grind) (by grind) (by grind) (by grind) (by unfold tf at *; unfold badParts; grind)
                  · refine rX8_isWrong_182 h (fun q598 => ?_) (fun q599 q600 => ?_) (fun q601 q602 => ?_)
                    · refine rX8_isWrong_210 h ?_
                      exact J_iret h dX8_isWrong_211 rfl (by unfold tf at *; unfold wrongAt stands badParts far; grind)
                    · refine rX8_isWrong_210 h ?_
                      exact J_iret h dX8_isWrong_211 rfl (by unfold tf at *; unfold wrongAt stands badParts far; grind)
                    · exact fin _ [] rfl (by grind) (by grind) (by grind) (by grind) (by unfold tf at *; unfold badParts; grind)
                  · refine rX8_isWrong_180 h ?_
                    exact J_iret h dX8_isWrong_181 rfl (by unfold tf at *; unfold wrongAt stands badParts far; grind)
              · exact J_iret h dX8_isWrong_129 rfl (by unfold tf at *; unfold wrongAt stands badParts far; grind)
            · exact J_iret h dX8_isWrong_115 rfl (by unfold tf at *; unfold wrongAt stands badParts far; grind)
            · exact J_iret h dX8_isWrong_115 rfl (by unfold tf at *; unfold wrongAt stands badParts far; grind)
          · refine rX8_isWrong_84 h (k_isRegT hl hG _) (by decide) (Nat.zero_le _) (fun v m1 e1 => ?_)
            obtain ⟨e1, rfl⟩ := e1
            refine rX8_isWrong_87 h (fun q603 => ?_) (fun q604 => ?_)
            · refine rX8_isWrong_92 h (fun q605 => ?_) (fun q606 q607 => ?_) (fun q608 q609 q610 => ?_) (fun q611 q612 q613 => ?_)
              · refine rX8_isWrong_116 h (fun q614 => ?_) (fun q615 q616 => ?_) (fun q617 q618 => ?_)
                · refine rX8_isWrong_130 h (fun q619 => ?_) (fun q620 q621 => ?_) (fun q622 q623 q624 => ?_) (fun q625 q626 q627 q628 => ?_) (fun q629 q630 q631 q632 => ?_)
                  · refine rX8_isWrong_180 h ?_
                    exact J_iret h dX8_isWrong_181 rfl (by unfold tf at *; unfold wrongAt stands badParts far; grind)
                  · refine rX8_isWrong_180 h ?_
                    exact J_iret h dX8_isWrong_181 rfl (by unfold tf at *; unfold wrongAt stands badParts far; grind)
                  · refine rX8_isWrong_168 h (fun q633 => ?_) (fun q634 q635 => ?_) (fun q636 q637 => ?_)
                    · refine rX8_isWrong_182 h (fun q638 => ?_) (fun q639 q640 => ?_) (fun q641 q642 => ?_)
                      · refine rX8_isWrong_210 h ?_
                        exact J_iret h dX8_isWrong_211 rfl (by unfold tf at *; unfold wrongAt stands badParts far; grind)
                      · refine rX8_isWrong_210 h ?_
                        exact J_iret h dX8_isWrong_211 rfl (by unfold tf at *; unfold wrongAt stands badParts far; grind)
                      · exact fin _ [] rfl (by grind) (by grind) (by grind) (by grind) (by unfold tf at *; unfold badParts; grind)
                    · refine rX8_isWrong_182 h (fun q643 => ?_) (fun q644 q645 => ?_) (fun q646 q647 => ?_)
                      · refine rX8_isWrong_210 h ?_
                        exact J_iret h dX8_isWrong_211 rfl (by unfold tf at *; unfold wrongAt stands badParts far; grind)
                      · refine rX8_isWrong_210 h ?_
                        exact J_iret h dX8_isWrong_211 rfl (by unfold tf at *; unfold wrongAt stands badParts far; grind)
                      · exact fin _ [] rfl (by grind) (by grind) (by grind) (by grind) (by unfold tf at *; unfold badParts; grind)
                    · refine rX8_isWrong_180 h ?_
                      exact J_iret h dX8_isWrong_181 rfl (by unfold tf at *; unfold wrongAt stands badParts far; grind)
                  · refine rX8_isWrong_180 h ?_
                    exact J_iret h dX8_isWrong_181 rfl (by unfold tf at *; unfold wrongAt stands badParts far; grind)
                  · refine rX8_isWrong_168 h (fun q648 => ?_) (fun q649 q650 => ?_) (fun q651 q652 => ?_)
                    · refine rX8_isWrong_182 h (fun q653 => ?_) (fun q654 q655 => ?_) (fun q656 q657 => ?_)
                      · refine rX8_isWrong_210 h ?_
                        exact J_iret h dX8_isWrong_211 rfl (by unfold tf at *; unfold wrongAt stands badParts far; grind)
                      · refine rX8_isWrong_210 h ?_
                        exact J_iret h dX8_isWrong_211 rfl (by unfold tf at *; unfold wrongAt stands badParts far; grind)
                      · exact fin _ [] rfl (by grind) (by grind) (by grind) (by grind) (by unfold tf at *; unfold badParts; grind)
                    · refine rX8_isWrong_182 h (fun q658 => ?_) (fun q659 q660 => ?_) (fun q661 q662 => ?_)
                      · refine rX8_isWrong_210 h ?_
                        exact J_iret h dX8_isWrong_211 rfl (by unfold tf at *; unfold wrongAt stands badParts far; grind)
                      · refine rX8_isWrong_210 h ?_
                        exact J_iret h dX8_isWrong_211 rfl (by unfold tf at *; unfold wrongAt stands badParts far; grind)
                      · exact fin _ [] rfl (by grind) (by grind) (by grind) (by grind) (by unfold tf at *; unfold badParts; grind)
                    · refine rX8_isWrong_180 h ?_
                      exact J_iret h dX8_isWrong_181 rfl (by unfold tf at *; unfold wrongAt stands badParts far; grind)
                · refine rX8_isWrong_130 h (fun q663 => ?_) (fun q664 q665 => ?_) (fun q666 q667 q668 => ?_) (fun q669 q670 q671 q672 => ?_) (fun q673 q674 q675 q676 => ?_)
                  · refine rX8_isWrong_180 h ?_
                    exact J_iret h dX8_isWrong_181 rfl (by unfold tf at *; unfold wrongAt stands badParts far; grind)
                  · refine rX8_isWrong_180 h ?_
                    exact J_iret h dX8_isWrong_181 rfl (by unfold tf at *; unfold wrongAt stands badParts far; grind)
                  · refine rX8_isWrong_168 h (fun q677 => ?_) (fun q678 q679 => ?_) (fun q680 q681 => ?_)
                    · refine rX8_isWrong_182 h (fun q682 => ?_) (fun q683 q684 => ?_) (fun q685 q686 => ?_)
                      · refine rX8_isWrong_210 h ?_
                        exact J_iret h dX8_isWrong_211 rfl (by unfold tf at *; unfold wrongAt stands badParts far; grind)
                      · refine rX8_isWrong_210 h ?_
                        exact J_iret h dX8_isWrong_211 rfl (by unfold tf at *; unfold wrongAt stands badParts far; grind)
                      · exact fin _ [] rfl (by grind) (by grind) (by grind) (by grind) (by unfold tf at *; unfold badParts; grind)
                    · refine rX8_isWrong_182 h (fun q687 => ?_) (fun q688 q689 => ?_) (fun q690 q691 => ?_)
                      · refine rX8_isWrong_210 h ?_
                        exact J_iret h dX8_isWrong_211 rfl (by unfold tf at *; unfold wrongAt stands badParts far; grind)
                      · refine rX8_isWrong_210 h ?_
                        exact J_iret h dX8_isWrong_211 rfl (by unfold tf at *; unfold wrongAt stands badParts far; grind)
                      · exact fin _ [] rfl (by grind) (by grind) (by grind) (by grind) (by unfold tf at *; unfold badParts; grind)
                    · refine rX8_isWrong_180 h ?_
                      exact J_iret h dX8_isWrong_181 rfl (by unfold tf at *; unfold wrongAt stands badParts far; grind)
                  · refine rX8_isWrong_180 h ?_
                    exact J_iret h dX8_isWrong_181 rfl (by unfold tf at *; unfold wrongAt stands badParts far; grind)
                  · refine rX8_isWrong_168 h (fun q692 => ?_) (fun q693 q694 => ?_) (fun q695 q696 => ?_)
                    · refine rX8_isWrong_182 h (fun q697 => ?_) (fun q698 q699 => ?_) (fun q700 q701 => ?_)
                      · refine rX8_isWrong_210 h ?_
                        exact J_iret h dX8_isWrong_211 rfl (by unfold tf at *; unfold wrongAt stands badParts far; grind)
                      · refine rX8_isWrong_210 h ?_
                        exact J_iret h dX8_isWrong_211 rfl (by unfold tf at *; unfold wrongAt stands badParts far; grind)
                      · exact fin _ [] rfl (by grind) (by grind) (by grind) (by grind) (by unfold tf at *; unfold badParts; grind)
                    · refine rX8_isWrong_182 h (fun q702 => ?_) (fun q703 q704 => ?_) (fun q705 q706 => ?_)
                      · refine rX8_isWrong_210 h ?_
                        exact J_iret h dX8_isWrong_211 rfl (by unfold tf at *; unfold wrongAt stands badParts far; grind)
                      · refine rX8_isWrong_210 h ?_
                        exact J_iret h dX8_isWrong_211 rfl (by unfold tf at *; unfold wrongAt stands badParts far; grind)
                      · exact fin _ [] rfl (by grind) (by grind) (by grind) (by grind) (by unfold tf at *; unfold badParts; grind)
                    · refine rX8_isWrong_180 h ?_
                      exact J_iret h dX8_isWrong_181 rfl (by unfold tf at *; unfold wrongAt stands badParts far; grind)
                · exact J_iret h dX8_isWrong_129 rfl (by unfold tf at *; unfold wrongAt stands badParts far; grind)
              · refine rX8_isWrong_116 h (fun q707 => ?_) (fun q708 q709 => ?_) (fun q710 q711 => ?_)
                · refine rX8_isWrong_130 h (fun q712 => ?_) (fun q713 q714 => ?_) (fun q715 q716 q717 => ?_) (fun q718 q719 q720 q721 => ?_) (fun q722 q723 q724 q725 => ?_)
                  · refine rX8_isWrong_180 h ?_
                    exact J_iret h dX8_isWrong_181 rfl (by unfold tf at *; unfold wrongAt stands badParts far; grind)
                  · refine rX8_isWrong_180 h ?_
                    exact J_iret h dX8_isWrong_181 rfl (by unfold tf at *; unfold wrongAt stands badParts far; grind)
                  · refine rX8_isWrong_168 h (fun q726 => ?_) (fun q727 q728 => ?_) (fun q729 q730 => ?_)
                    · refine rX8_isWrong_182 h (fun q731 => ?_) (fun q732 q733 => ?_) (fun q734 q735 => ?_)
                      · refine rX8_isWrong_210 h ?_
                        exact J_iret h dX8_isWrong_211 rfl (by unfold tf at *; unfold wrongAt stands badParts far; grind)
                      · refine rX8_isWrong_210 h ?_
                        exact J_iret h dX8_isWrong_211 rfl (by unfold tf at *; unfold wrongAt stands badParts far; grind)
                      · exact fin _ [] rfl (by grind) (by grind) (by grind) (by grind) (by unfold tf at *; unfold badParts; grind)
                    · refine rX8_isWrong_182 h (fun q736 => ?_) (fun q737 q738 => ?_) (fun q739 q740 => ?_)
                      · refine rX8_isWrong_210 h ?_
                        exact J_iret h dX8_isWrong_211 rfl (by unfold tf at *; unfold wrongAt stands badParts far; grind)
                      · refine rX8_isWrong_210 h ?_
                        exact J_iret h dX8_isWrong_211 rfl (by unfold tf at *; unfold wrongAt stands badParts far; grind)
                      · exact fin _ [] rfl (by grind) (by grind) (by grind) (by grind) (by unfold tf at *; unfold badParts; grind)
                    · refine rX8_isWrong_180 h ?_
                      exact J_iret h dX8_isWrong_181 rfl (by unfold tf at *; unfold wrongAt stands badParts far; grind)
                  · refine rX8_isWrong_180 h ?_
                    exact J_iret h dX8_isWrong_181 rfl (by unfold tf at *; unfold wrongAt stands badParts far; grind)
                  · refine rX8_isWrong_168 h (fun q741 => ?_) (fun q742 q743 => ?_) (fun q744 q745 => ?_)
                    · refine rX8_isWrong_182 h (fun q746 => ?_) (fun q747 q748 => ?_) (fun q749 q750 => ?_)
                      · refine rX8_isWrong_210 h ?_
                        exact J_iret h dX8_isWrong_211 rfl (by unfold tf at *; unfold wrongAt stands badParts far; grind)
                      · refine rX8_isWrong_210 h ?_
                        exact J_iret h dX8_isWrong_211 rfl (by unfold tf at *; unfold wrongAt stands badParts far; grind)
                      · exact fin _ [] rfl (by grind) (by grind) (by grind) (by grind) (by unfold tf at *; unfold badParts; grind)
                    · refine rX8_isWrong_182 h (fun q751 => ?_) (fun q752 q753 => ?_) (fun q754 q755 => ?_)
                      · refine rX8_isWrong_210 h ?_
                        exact J_iret h dX8_isWrong_211 rfl (by unfold tf at *; unfold wrongAt stands badParts far; grind)
                      · refine rX8_isWrong_210 h ?_
                        exact J_iret h dX8_isWrong_211 rfl (by unfold tf at *; unfold wrongAt stands badParts far; grind)
                      · exact fin _ [] rfl (by grind) (by grind) (by grind) (by grind) (by unfold tf at *; unfold badParts; grind)
                    · refine rX8_isWrong_180 h ?_
                      exact J_iret h dX8_isWrong_181 rfl (by unfold tf at *; unfold wrongAt stands badParts far; grind)
                · refine rX8_isWrong_130 h (fun q756 => ?_) (fun q757 q758 => ?_) (fun q759 q760 q761 => ?_) (fun q762 q763 q764 q765 => ?_) (fun q766 q767 q768 q769 => ?_)
                  · refine rX8_isWrong_180 h ?_
                    exact J_iret h dX8_isWrong_181 rfl (by unfold tf at *; unfold wrongAt stands badParts far; grind)
                  · refine rX8_isWrong_180 h ?_
                    exact J_iret h dX8_isWrong_181 rfl (by unfold tf at *; unfold wrongAt stands badParts far; grind)
                  · refine rX8_isWrong_168 h (fun q770 => ?_) (fun q771 q772 => ?_) (fun q773 q774 => ?_)
                    · refine rX8_isWrong_182 h (fun q775 => ?_) (fun q776 q777 => ?_) (fun q778 q779 => ?_)
                      · refine rX8_isWrong_210 h ?_
                        exact J_iret h dX8_isWrong_211 rfl (by unfold tf at *; unfold wrongAt stands badParts far; grind)
                      · refine rX8_isWrong_210 h ?_
                        exact J_iret h dX8_isWrong_211 rfl (by unfold tf at *; unfold wrongAt stands badParts far; grind)
                      · exact fin _ [] rfl (by grind) (by grind) (by grind) (by grind) (by unfold tf at *; unfold badParts; grind)
                    · refine rX8_isWrong_182 h (fun q780 => ?_) (fun q781 q782 => ?_) (fun q783 q784 => ?_)
                      · refine rX8_isWrong_210 h ?_
                        exact J_iret h dX8_isWrong_211 rfl (by unfold tf at *; unfold wrongAt stands badParts far; grind)
                      · refine rX8_isWrong_210 h ?_
                        exact J_iret h dX8_isWrong_211 rfl (by unfold tf at *; unfold wrongAt stands badParts far; grind)
                      · exact fin _ [] rfl (by grind) (by grind) (by grind) (by grind) (by unfold tf at *; unfold badParts; grind)
                    · refine rX8_isWrong_180 h ?_
                      exact J_iret h dX8_isWrong_181 rfl (by unfold tf at *; unfold wrongAt stands badParts far; grind)
                  · refine rX8_isWrong_180 h ?_
                    exact J_iret h dX8_isWrong_181 rfl (by unfold tf at *; unfold wrongAt stands badParts far; grind)
                  · refine rX8_isWrong_168 h (fun q785 => ?_) (fun q786 q787 => ?_) (fun q788 q789 => ?_)
                    · refine rX8_isWrong_182 h (fun q790 => ?_) (fun q791 q792 => ?_) (fun q793 q794 => ?_)
                      · refine rX8_isWrong_210 h ?_
                        exact J_iret h dX8_isWrong_211 rfl (by unfold tf at *; unfold wrongAt stands badParts far; grind)
                      · refine rX8_isWrong_210 h ?_
                        exact J_iret h dX8_isWrong_211 rfl (by unfold tf at *; unfold wrongAt stands badParts far; grind)
                      · exact fin _ [] rfl (by grind) (by grind) (by grind) (by grind) (by unfold tf at *; unfold badParts; grind)
                    · refine rX8_isWrong_182 h (fun q795 => ?_) (fun q796 q797 => ?_) (fun q798 q799 => ?_)
                      · refine rX8_isWrong_210 h ?_
                        exact J_iret h dX8_isWrong_211 rfl (by unfold tf at *; unfold wrongAt stands badParts far; grind)
                      · refine rX8_isWrong_210 h ?_
                        exact J_iret h dX8_isWrong_211 rfl (by unfold tf at *; unfold wrongAt stands badParts far; grind)
                      · exact fin _ [] rfl (by grind) (by grind) (by grind) (by grind) (by unfold tf at *; unfold badParts; grind)
                    · refine rX8_isWrong_180 h ?_
                      exact J_iret h dX8_isWrong_181 rfl (by unfold tf at *; unfold wrongAt stands badParts far; grind)
                · exact J_iret h dX8_isWrong_129 rfl (by unfold tf at *; unfold wrongAt stands badParts far; grind)
              · exact J_iret h dX8_isWrong_115 rfl (by unfold tf at *; unfold wrongAt stands badParts far; grind)
              · exact J_iret h dX8_isWrong_115 rfl (by unfold tf at *; unfold wrongAt stands badParts far; grind)
            · refine rX8_isWrong_90 h ?_
              exact J_iret h dX8_isWrong_91 rfl (by unfold tf at *; unfold wrongAt stands badParts far; grind)
theorem k_wrongWord (hl : l.stackTraces = false) (hG : jGok G) {pr : List Wd} (hP : ProgR pr mu) (hlen : pr.length ≤ 64) : jCi l G yX8_wrongWord cX8_wrongWord 2 3 (some .int) [.ref 58] mu (fun v mu' => isFirst pr v ∧ mu' = mu) := by
  refine jCi.of (pad := 1) hl hG (by decide) (Nat.le_of_ble_eq_true rfl) (fun X h => ?_)
  show J l G X _ 2 0 [.ref 58, .float 0] [] mu 0
  refine rX8_wrongWord_0 h ?_
  have loop : ∀ (m i : Nat), i + m = pr.length → (∀ j, j < i → ¬ wrongAt pr j) → J l G X (jRi G X (fun v mu' => isFirst pr v ∧ mu' = mu)) 2 2 [.ref 58, .int (nI i)] [] mu 0 := by
    intro m
    induction m with
    | zero =>
      intro i hi hj
      have hle : mu 58 9 ≤ nI i := by rw [hP.1]; exact nI_le (by omega) (by omega)
      refine rX8_wrongWord_2 h (fun _ => ?_) (fun z => absurd hle z)
      refine rX8_wrongWord_24 h (fun _ => ?_) (fun z => absurd hle z)
      exact J_iret h dX8_wrongWord_37 rfl ⟨Or.inl ⟨rfl, fun j q => hj j (by omega)⟩, rfl⟩
    | succ m ih =>
      intro i hi hj
      have hle : ¬ mu 58 9 ≤ nI i := by rw [hP.1]; exact nI_ge (by omega) (by omega)
      refine rX8_wrongWord_2 h (fun z => absurd z hle) (fun _ => ?_)
      refine rX8_wrongWord_12 h (k_isWrong hl hG hP hlen (by omega) hj) (by decide) (Nat.zero_le _) (fun v m1 e1 => ?_)
      obtain ⟨e1, rfl⟩ := e1
      refine rX8_wrongWord_15 h (fun q => ?_) (fun q => ?_)
      · refine rX8_wrongWord_24 h (fun z => absurd z hle) (fun _ => ?_)
        exact J_iret h dX8_wrongWord_37 rfl ⟨Or.inr ⟨i, by omega, rfl, e1.yes q, hj⟩, rfl⟩
      · rw [nI_1]
        exact ih (i + 1) (by omega) (fun j hj2 => by
          rcases Nat.lt_or_ge j i with z | z
          · exact hj j z
          · rw [show j = i by omega]; exact e1.no q)
  exact loop pr.length 0 (by omega) (fun j q => absurd q (by omega))
theorem k_check (hl : l.stackTraces = false) (hG : jGok G) {pr : List Wd} (hP : ProgR pr mu) (hlen : pr.length ≤ 64) : jCi l G yX8_check cX8_check 1 4 (some .int) [.ref 58] mu (fun v mu' => isFirst pr v ∧ mu' = wr mu 58 0 0) := by
  refine jCi.of (pad := 0) hl hG (by decide) (Nat.le_of_ble_eq_true rfl) (fun X h => ?_)
  show J l G X _ 1 0 [.ref 58] [] mu 0
  have hP' : ProgR pr (wr mu 58 0 0) := hP.same (W := []) (F := [0]) (SmR.fld (by decide)) (by decide) (by decide)
  refine rX8_check_0 h ?_
  refine rX8_check_6 h (k_wrongWord hl hG hP' hlen) (by decide) (Nat.zero_le _) (fun v m1 e1 => ?_)
  exact J_iret h dX8_check_9 rfl (by exact e1)
def Valid (pr : List Wd) : Prop := ∀ j, j < pr.length → ¬ wrongAt pr j
theorem isFirst.ok {pr : List Wd} {v : Int32} (h : isFirst pr v) (hlen : pr.length ≤ 64) : (v < 0 ↔ Valid pr) ∧ (v = -1 ↔ Valid pr) := by
  have e1 : (-1 : Int32).toInt = -1 := rfl
  have e0 : (0 : Int32).toInt = 0 := rfl
  rcases h with ⟨rfl, h⟩ | ⟨i, hi, rfl, hw, h⟩
  · exact ⟨⟨fun _ => h, fun _ => by decide⟩, ⟨fun _ => h, fun _ => rfl⟩⟩
  · refine ⟨⟨fun z => ?_, fun z => absurd hw (z i hi)⟩, ⟨fun z => ?_, fun z => absurd hw (z i hi)⟩⟩
    · rw [iLt, nI_toInt (by omega)] at z; omega
    · rw [iEq, nI_toInt (by omega)] at z; omega
theorem c_refuseWrong (hl : l.stackTraces = false) (hG : jGok G) {pr : List Wd} (hP : ProgC pr mu) (hlen : pr.length ≤ 64) : jXv l G yX7_refuseWrongWord cX7_refuseWrongWord 1 6 1 [.ref 0] mu (fun mu' => mu' = mu ∧ Valid pr) (fun E mu' => mu' = mu ∧ E = E_ISE ∧ ¬ Valid pr) := by
  refine jXv.of (pad := 0) hl hG (by decide) (Nat.le_of_ble_eq_true rfl) (fun X h ht => ?_)
  show J l G X _ 1 0 [.ref 0] [] mu 0
  refine rX7_refuseWrongWord_0 h ?_
  refine rX7_refuseWrongWord_4 h (c_firstWrong hl hG hP hlen) (by decide) (Nat.zero_le _) (fun v m1 e1 => ?_)
  obtain ⟨e1, rfl⟩ := e1
  have hv := (e1.ok hlen).1
  refine rX7_refuseWrongWord_7 h (fun q => ?_) (fun q => ?_)
  · exact J_vretX h dX7_refuseWrongWord_21 (by decide) ⟨rfl, hv.mp q⟩
  · exact tX7_refuseWrongWord_10 h ht (by decide) (by decide) ⟨rfl, rfl, fun z => q (hv.mpr z)⟩
end C37
