/-! ===== small facts for the printed rows ===== -/
theorem fits_narrow_bool (v : Int32) : fits .boolean (narrow .boolean (.int v)) = true := by
  have h : v &&& 1 = 0 ∨ v &&& 1 = 1 := by
    rw [pk_and v (m := 1) 1 (by decide)]
    rcases Nat.mod_two_eq_zero_or_one v.toBitVec.toNat with q | q
    · rw [show 2 ^ 1 = 2 from rfl, q]; exact Or.inl rfl
    · rw [show 2 ^ 1 = 2 from rfl, q]; exact Or.inr rfl
  rcases h with h | h <;> simp [narrow, fits, h]
theorem jout {x : Int32} {lo hi : Int} (n : Nat) (hh : hi = lo + n - 1) (h : ∀ k : Nat, k < n → ¬ x.toInt = lo + k) : x.toInt < lo ∨ hi < x.toInt := by
  rcases Int.lt_or_le x.toInt lo with a | a
  · exact Or.inl a
  rcases Int.lt_or_le hi x.toInt with b | b
  · exact Or.inr b
  exact absurd (by omega) (h (x.toInt - lo).toNat (by omega))
theorem jin {i : Int32} {n : Nat} (h : ¬ (i < 0 ∨ n ≤ i.toNatClampNeg)) : vp_in i n := h
