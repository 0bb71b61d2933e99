/-! ===== the law's loop ===== -/
theorem nI_pl (a b : Nat) : nI a + nI b = nI (a + b) := (Int32.ofNat_add a b).symm
theorem law_end {L i : Nat} (hL : L ≤ 384) (hi : i ≤ 400) : (Int32.ofNat L - 6) < nI i ↔ L < i + 6 := by
  rw [Int32.lt_iff_toInt_lt]
  rw [show Int32.ofNat L - 6 = nI L - nI 6 from rfl, nI_dif (by omega) (by omega)]
  rw [show (nI i).toInt = (i : Int) from by rw [show nI i = nI i - nI 0 from by simp [nI], nI_dif (by omega) (by omega)]; simp]
  omega
theorem law_loop {l : Launch} {G : jG} {X : jX} {Q : State → Prop} {nc L : Nat} {ret : Option FieldType} {xs : Nat → Int32} (hl : l.stackTraces = false) (hG : jGok G) (h : jOk l G X cL_law 7 ret RL 11 nc) (hsc : jScr G X L xs) (hL : L ≤ 384)
    (kq : ∀ mu n x4 v5 v6, n ≤ nc → J l G X Q 7 1345 [.ref 2000, .ref 0, .ref 58, .ref 93, .int x4, v5, v6] [.int 1] mu n) :
    ∀ (k i n : Nat) (mu : jM) (v5 v6 : Value), i + k = 64 → n + 6 * k ≤ nc → GR mu → J l G X Q 7 23 [.ref 2000, .ref 0, .ref 58, .ref 93, .int (nI (6 * i)), v5, v6] [] mu n := by
  intro k
  induction k with
  | zero =>
    intro i n mu v5 v6 hi hn hR
    have he : (Int32.ofNat L - 6) < nI (6 * i) := (law_end hL (by omega)).mpr (by omega)
    exact rL_law_23 h hsc (fun q => absurd he q) (fun _ => kq _ _ _ _ _ (by omega)) (fun q => absurd he q)
  | succ k ih =>
    intro i n mu v5 v6 hi hn hR
    have vi : ∀ j, j < 6 → ¬ (Int32.ofNat L - 6) < nI (6 * i) → vp_in (nI (6 * i) + nI j) L := fun j hj q => by
      have hlt : ¬ L < 6 * i + 6 := fun z => q ((law_end hL (by omega)).mpr z)
      rw [nI_pl]
      exact vp_in_nI (by omega) (by omega)
    refine rL_law_23 h hsc (fun q => ?_) (fun _ => kq _ _ _ _ _ (by omega)) (fun q => ?_)
    · have := vi 0 (by omega) q
      rwa [nI_pl, Nat.add_zero] at this
    have kk : ∀ (mu' : jM) (w5 w6 : Value), GR mu' → J l G X Q 7 1338 [.ref 2000, .ref 0, .ref 58, .ref 93, .int (nI (6 * i)), w5, w6] [] mu' (n + 6) := fun mu' w5 w6 hR' => by
      refine rL_law_1338 h hsc ?_
      rw [show nI (6 * i) + 6 = nI (6 * (i + 1)) from (nI_pl (6 * i) 6).trans (by rw [Nat.mul_add])]
      exact ih (i + 1) (n + 6) mu' w5 w6 (by omega) (by omega) hR'
    have s1 : vp_in (nI (6 * i) + 1) L := vi 1 (by omega) q
    have s2 : vp_in (nI (6 * i) + 2) L := vi 2 (by omega) q
    have s3 : vp_in (nI (6 * i) + 3) L := vi 3 (by omega) q
    have s4 : vp_in (nI (6 * i) + 4) L := vi 4 (by omega) q
    have s5 : vp_in (nI (6 * i) + 5) L := vi 5 (by omega) q
    refine rL_law_40 h hsc (fun _ => l_net hl hG h hsc s1 s2 s3 s4 s5 (by omega) hR kk) (fun _ => l_link hl hG h hsc s1 s2 s3 s4 s5 (by omega) hR kk) (fun _ => l_word hl hG h hsc s1 s2 s3 s4 s5 (by omega) hR kk) (fun _ => l_builtin hl hG h hsc s1 s2 s3 s4 s5 (by omega) hR kk) (fun _ => l_cutAt hl hG h hsc s1 s2 s3 s4 s5 (by omega) hR kk) (fun _ => l_check hl hG h hsc s1 s2 s3 s4 s5 (by omega) hR kk) (fun _ => l_input hl hG h hsc s1 s2 s3 s4 s5 (by omega) hR kk) (fun _ => l_lockstep hl hG h hsc s1 s2 s3 s4 s5 (by omega) hR kk) (fun _ => l_plain hl hG h hsc s1 s2 s3 s4 s5 (by omega) hR kk) (fun _ => l_prepare hl hG h hsc s1 s2 s3 s4 s5 (by omega) hR kk) (fun _ => l_release hl hG h hsc s1 s2 s3 s4 s5 (by omega) hR kk) (fun _ => l_stopAt hl hG h hsc s1 s2 s3 s4 s5 (by omega) hR kk) (fun _ => l_letters hl hG h hsc s1 s2 s3 s4 s5 (by omega) hR kk) (fun _ => l_letter hl hG h hsc s1 s2 s3 s4 s5 (by omega) hR kk) (fun _ => l_deliver hl hG h hsc s1 s2 s3 s4 s5 (by omega) hR kk) (fun _ => l_deliverAll hl hG h hsc s1 s2 s3 s4 s5 (by omega) hR kk) (fun _ => l_switchTo hl hG h hsc s1 s2 s3 s4 s5 (by omega) hR kk) (fun _ => l_roundOf hl hG h hsc s1 s2 s3 s4 s5 (by omega) hR kk) (fun _ => l_value hl hG h hsc s1 s2 s3 s4 s5 (by omega) hR kk) (fun _ => l_place hl hG h hsc s1 s2 s3 s4 s5 (by omega) hR kk) (fun _ => l_chosen hl hG h hsc s1 s2 s3 s4 s5 (by omega) hR kk) (fun _ => l_count hl hG h hsc s1 s2 s3 s4 s5 (by omega) hR kk) ?_
    intros
    exact J_wide (by omega) (by omega) h (kk _ _ _ hR)
