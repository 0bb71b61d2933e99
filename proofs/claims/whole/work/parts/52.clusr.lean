/-! ===== the reference's clusters ===== -/
theorem wr_same (mu : jM) (k j : Nat) : wr mu k j (mu k j) = mu := by
  unfold wr
  rw [show upd (mu k) j (mu k j) = mu k from (by
    funext i
    unfold upd
    split
    · next z => rw [z]
    · rfl)]
  exact put_self mu k
def RC (n : Nat) (s : CS) (mu : jM) : Prop := mu 58 32 = nI s.1 ∧ ∀ x, x < n → mu 84 x = parI (s.2.1 x) ∧ ((s.2.1 x).isSome = true → mu 85 x = parI (s.2.2.1 x) ∧ mu 86 x = nI (s.2.2.2 x))
/-- in the midst of a cluster -/
def RM (n : Nat) (s : CS) (t : TS) (mu : jM) : Prop := mu 58 32 = nI s.1 ∧ ∀ x, x < n → mu 84 x = (if t.1 x then nI s.1 else parI (s.2.1 x)) ∧ (t.1 x = true → mu 85 x = parI (t.2.2.1 x) ∧ mu 86 x = nI (t.2.2.2 x)) ∧ (t.1 x = false → (s.2.1 x).isSome = true → mu 85 x = parI (s.2.2.1 x) ∧ mu 86 x = nI (s.2.2.2 x))
theorem RM.at {n : Nat} {lk : Lk} {a : Nat} (hn : n ≤ 24) (han : a ≤ n) {s : CS} {t : TS} {mu : jM} (h : RM n s t mu) (hI : CI lk n a s) : (∀ x, x < n → (mu 84 x = -1 ↔ t.1 x = false ∧ frS n s.2.1 x = true)) ∧ (∀ x, x < n → (mu 84 x = nI s.1 ↔ t.1 x = true)) := by
  have h3 := hI.2.2.1
  refine ⟨fun x hx => ?_, fun x hx => ?_⟩
  · rw [(h.2 x hx).1]
    unfold frS
    by_cases z : t.1 x = true
    · rw [if_pos z]
      exact ⟨fun u => absurd (by rw [u]; decide) (nI_pos (n := s.1) (by omega)), fun u => by rw [z] at u; cases u.1⟩
    · rw [if_neg z]
      have zf : t.1 x = false := by simpa using z
      cases hc : s.2.1 x with
      | none => simp [parI, zf, hx]
      | some c =>
        have := (hI.2.1 x c hc).2
        simp only [parI]
        exact ⟨fun u => absurd (by rw [u]; decide) (nI_pos (n := c) (by omega)), fun u => by simp at u⟩
  · rw [(h.2 x hx).1]
    by_cases z : t.1 x = true
    · rw [if_pos z]; exact ⟨fun _ => z, fun _ => rfl⟩
    · rw [if_neg z]
      cases hc : s.2.1 x with
      | none =>
        simp only [parI]
        exact ⟨fun u => absurd (by rw [← u]; decide) (nI_pos (n := s.1) (by omega)), fun u => absurd u z⟩
      | some c =>
        have := (hI.2.1 x c hc).2
        simp only [parI]
        rw [nI_eq (by omega) (by omega)]
        exact ⟨fun u => absurd u (by omega), fun u => absurd u z⟩
section C52
variable {l : Launch} {G : jG} {mu : jM}
theorem k_sizeOf (hl : l.stackTraces = false) (hG : jGok G) {n c : Nat} (hn : n ≤ 24) (h1 : mu 58 1 = nI n) {B : NS} (hB : ∀ x, x < n → (mu 84 x = nI c ↔ B x = true)) : jCi l G yX8_sizeOf cX8_sizeOf 4 1 (some .int) [.ref 58, .int (nI c)] mu (fun v mu' => v = nI (cnt n B) ∧ mu' = mu) := by
  refine jCi.of (pad := 2) hl hG (by decide) (Nat.le_of_ble_eq_true rfl) (fun X h => ?_)
  show J l G X _ 4 0 [.ref 58, .int (nI c), .float 0, .float 0] [] mu 0
  refine rX8_sizeOf_0 h ?_
  have loop : ∀ (w a : Nat), a + w = n → J l G X (jRi G X (fun v mu' => v = nI (cnt n B) ∧ mu' = mu)) 4 4 [.ref 58, .int (nI c), .int (nI (fb_ct B a)), .int (nI a)] [] mu 0 := by
    intro w
    induction w with
    | zero =>
      intro a ha
      have han : a = n := by omega
      subst han
      have hle : mu 58 1 ≤ nI a := by rw [h1]; exact Int32.le_refl _
      exact rX8_sizeOf_4 h (fun z => absurd hle z) (fun _ => J_iret h dX8_sizeOf_37 rfl ⟨rfl, rfl⟩) (fun z => absurd hle z) (fun z => absurd hle z)
    | succ w ih =>
      intro a ha
      have hle : ¬ mu 58 1 ≤ nI a := by rw [h1]; exact nI_ge (by omega) (by omega)
      have hca : (nI a).toNatClampNeg = a := nI_clamp (by omega)
      have := ih (a + 1) (by omega)
      rw [fb_ct_succ] at this
      refine rX8_sizeOf_4 h (fun _ => vp_in_nI (by omega) (by omega)) (fun z => absurd z hle) (fun _ q => ?_) (fun _ q => ?_)
      · rw [hca, hB a (by omega)] at q
        rw [if_neg q] at this
        rw [nI_1, Int32.add_zero]; exact this
      · rw [hca, hB a (by omega)] at q
        rw [if_pos q] at this
        rw [nI_1, nI_1]; exact this
  exact loop n 0 (by omega)
theorem k_markLayer (hl : l.stackTraces = false) (hG : jGok G) {n c : Nat} {lk : Lk} (hok : NetOk n lk) (hN : NetR n lk mu) {B free : NS} (hA : ∀ x, x < n → (mu 84 x = -1 ↔ B x = false ∧ free x = true)) (hB : ∀ x, x < n → (mu 84 x = nI c ↔ B x = true)) : jCi l G yX8_markLayer cX8_markLayer 6 2 (some .int) [.ref 58, .int (nI c)] mu (fun v mu' => v = nI (cnt n (lyr lk n free B)) ∧ (∀ x, x < n → mu' 88 x = if lyr lk n free B x then 1 else 0) ∧ SmR [88] [] mu mu') := by
  refine jCi.of (pad := 4) hl hG (by decide) (Nat.le_of_ble_eq_true rfl) (fun X h => ?_)
  show J l G X _ 6 0 [.ref 58, .int (nI c), .float 0, .float 0, .float 0, .float 0] [] mu 0
  have hn := hok.1
  refine rX8_markLayer_0 h ?_
  have outer : ∀ (w a : Nat) (m3 : jM), a + w = n → (∀ x, x < a → m3 88 x = if lyr lk n free B x then 1 else 0) → SmR [88] [] mu m3 → J l G X (jRi G X (fun v mu' => v = nI (cnt n (lyr lk n free B)) ∧ (∀ x, x < n → mu' 88 x = if lyr lk n free B x then 1 else 0) ∧ SmR [88] [] mu mu')) 6 4 [.ref 58, .int (nI c), .int (nI (fb_ct (lyr lk n free B) a)), .int (nI a), .float 0, .float 0] [] m3 0 := by
    intro w
    induction w with
    | zero =>
      intro a m3 ha q1 q2
      have han : a = n := by omega
      subst han
      have hle : m3 58 1 ≤ nI a := by rw [q2.2 1 (by simp), hN.1]; exact Int32.le_refl _
      exact rX8_markLayer_4 h (fun _ => J_iret h dX8_markLayer_109 rfl ⟨rfl, q1, q2⟩) (fun z => absurd hle z)
    | succ w ih =>
      intro a m3 ha q1 q2
      have hle : ¬ m3 58 1 ≤ nI a := by rw [q2.2 1 (by simp), hN.1]; exact nI_ge (by omega) (by omega)
      have hca : (nI a).toNatClampNeg = a := nI_clamp (by omega)
      have va : vp_in (nI a) 24 := vp_in_nI (by omega) (by omega)
      have N3 := hN.same q2 (by decide) (by decide)
      have r84 : m3 84 = mu 84 := q2.1 84 (by decide) (by decide)
      refine rX8_markLayer_4 h (fun z => absurd z hle) (fun _ => ?_)
      have inner : ∀ (w2 b : Nat) (nx : Int32), b + w2 = n → tf nx (∃ y, y < b ∧ B y = true ∧ a ∈ nbl lk y) → J l G X (jRi G X (fun v mu' => v = nI (cnt n (lyr lk n free B)) ∧ (∀ x, x < n → mu' 88 x = if lyr lk n free B x then 1 else 0) ∧ SmR [88] [] mu mu')) 6 18 [.ref 58, .int (nI c), .int (nI (fb_ct (lyr lk n free B) a)), .int (nI a), .int nx, .int (nI b)] [] m3 0 := by
        intro w2
        induction w2 with
        | zero =>
          intro b nx hb hx
          have hle : m3 58 1 ≤ nI b := by rw [q2.2 1 (by simp), hN.1]; exact nI_le (by omega) (by omega)
          have hfin : ∀ v : Int32, (v = if lyr lk n free B a then 1 else 0) → J l G X (jRi G X (fun v mu' => v = nI (cnt n (lyr lk n free B)) ∧ (∀ x, x < n → mu' 88 x = if lyr lk n free B x then 1 else 0) ∧ SmR [88] [] mu mu')) 6 4 [.ref 58, .int (nI c), .int (nI (fb_ct (lyr lk n free B) a) + (wr m3 88 (nI a).toNatClampNeg v) 88 (nI a).toNatClampNeg), .int (nI a + 1), .int nx, .int (nI b)] [] (wr m3 88 (nI a).toNatClampNeg v) 0 := fun v hv => by
            rw [hca, rd_at, show upd (m3 88) a v a = v from if_pos rfl, nI_1]
            have e : nI (fb_ct (lyr lk n free B) a) + v = nI (fb_ct (lyr lk n free B) (a + 1)) := by
              rw [fb_ct_succ, hv]
              split
              · exact nI_add _ 1
              · rw [Int32.add_zero, Nat.add_zero]
            rw [e]
            refine J_forget 4 (J_forget 5 (ih (a + 1) _ (by omega) (fun x hx2 => ?_) (q2.trans' (SmR.wr (by decide) (by decide)))))
            show (if x = a then v else m3 88 x) = _
            by_cases z : x = a
            · rw [if_pos z, z]; exact hv
            · rw [if_neg z]; exact q1 x (by omega)
          have hl0 : ¬ (B a = false ∧ free a = true) ∨ nx = 0 → (0 : Int32) = if lyr lk n free B a then 1 else 0 := fun u => by
            rw [if_neg]
            intro z
            obtain ⟨z1, z2, y, z3, z4, z5⟩ := lyr_iff.mp z
            rcases u with v | v
            · exact v ⟨z1, z2⟩
            · exact hx.no v ⟨y, by omega, z4, z5⟩
          have hl1 : (B a = false ∧ free a = true) → ¬ nx = 0 → (1 : Int32) = if lyr lk n free B a then 1 else 0 := fun u v => by
            rw [if_pos]
            obtain ⟨y, z1, z2, z3⟩ := hx.yes v
            exact lyr_iff.mpr ⟨u.1, u.2, y, by omega, z2, z3⟩
          refine rX8_markLayer_18 h (fun _ => va) (fun _ _ => va) (fun _ _ => va) (fun _ _ _ => va) (fun _ _ _ => va) (fun _ _ _ => va) (fun _ _ _ => va) (fun z => absurd hle z) (fun _ u => ?_) (fun _ u u2 => ?_) (fun _ u u2 => ?_) (fun z => absurd hle z) (fun z => absurd hle z) (fun z => absurd hle z)
          · rw [hca, r84, hA a (by omega)] at u
            exact hfin 0 (hl0 (Or.inl u))
          · exact hfin 0 (hl0 (Or.inr u2))
          · rw [hca, r84, hA a (by omega)] at u
            exact hfin 1 (hl1 u u2)
        | succ w2 ih2 =>
          intro b nx hb hx
          have hle : ¬ m3 58 1 ≤ nI b := by rw [q2.2 1 (by simp), hN.1]; exact nI_ge (by omega) (by omega)
          have hcb : (nI b).toNatClampNeg = b := nI_clamp (by omega)
          have yes : (∃ y, y < b + 1 ∧ B y = true ∧ a ∈ nbl lk y) → J l G X (jRi G X (fun v mu' => v = nI (cnt n (lyr lk n free B)) ∧ (∀ x, x < n → mu' 88 x = if lyr lk n free B x then 1 else 0) ∧ SmR [88] [] mu mu')) 6 54 [.ref 58, .int (nI c), .int (nI (fb_ct (lyr lk n free B) a)), .int (nI a), .int nx, .int (nI b)] [] m3 0 := fun u => by
            refine rX8_markLayer_54 h ?_
            rw [nI_1]
            exact ih2 (b + 1) 1 (by omega) (tf.one u)
          have no : nx = 0 → ¬ (B b = true ∧ a ∈ nbl lk b) → J l G X (jRi G X (fun v mu' => v = nI (cnt n (lyr lk n free B)) ∧ (∀ x, x < n → mu' 88 x = if lyr lk n free B x then 1 else 0) ∧ SmR [88] [] mu mu')) 6 58 [.ref 58, .int (nI c), .int (nI (fb_ct (lyr lk n free B) a)), .int (nI a), .int nx, .int (nI b)] [] m3 0 := fun u0 u => by
            refine rX8_markLayer_58 h ?_
            rw [nI_1]
            refine ih2 (b + 1) 0 (by omega) (tf.zero ?_)
            rintro ⟨y, y1, y2, y3⟩
            rcases Nat.lt_or_ge y b with v | v
            · exact hx.no u0 ⟨y, v, y2, y3⟩
            · have : y = b := by omega
              subst this
              exact u ⟨y2, y3⟩
          refine rX8_markLayer_18 h (fun z => absurd z hle) (fun z => absurd z hle) (fun z => absurd z hle) (fun z => absurd z hle) (fun z => absurd z hle) (fun z => absurd z hle) (fun z => absurd z hle) (fun _ _ => vp_in_nI (by omega) (by omega)) (fun z => absurd z hle) (fun z => absurd z hle) (fun z => absurd z hle) (fun _ u => ?_) (fun _ u u2 => ?_) (fun _ u u2 => ?_)
          · obtain ⟨y, y1, y2⟩ := hx.yes u
            exact yes ⟨y, by omega, y2⟩
          · rw [hcb, r84, hB b (by omega)] at u2
            exact no u (fun v => u2 v.1)
          · rw [hcb, r84, hB b (by omega)] at u2
            refine rX8_markLayer_47 h (k_linkOf hl hG hok N3.2.1 N3.2.2.1 (by omega) (by omega)) (by decide) (Nat.zero_le _) (fun v m5 e5 => ?_)
            obtain ⟨rfl, rfl⟩ := e5
            refine rX8_markLayer_50 h (fun u3 => ?_) (fun u3 => ?_)
            · rw [lnk_iff hok] at u3
              exact no u (fun v => u3 ((nbl_sym hok).mp v.2))
            · rw [lnk_iff hok] at u3
              exact yes ⟨b, by omega, u2, (nbl_sym hok).mp (Classical.not_not.mp u3)⟩
      exact inner n 0 0 (by omega) (tf.zero (by rintro ⟨y, y1, -⟩; omega))
  exact outer n 0 mu (by omega) (fun x hx => absurd hx (by omega)) SmR.rfl'
end C52
