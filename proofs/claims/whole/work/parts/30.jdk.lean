/-! ===== contracts: the JDK's methods ===== -/
theorem rd_at (mu : jM) (k j : Nat) (v : Int32) : wr mu k j v k = upd (mu k) j v := if_pos rfl
theorem rd_ne (mu : jM) {a k : Nat} (j : Nat) (v : Int32) (h : a ≠ k) : wr mu k j v a = mu a := if_neg h
theorem put_at (mu : jM) (k : Nat) (f : Nat → Int32) : jPut mu k f k = f := if_pos rfl
theorem put_ne (mu : jM) {a k : Nat} (f : Nat → Int32) (h : a ≠ k) : jPut mu k f a = mu a := if_neg h
theorem put_put (mu : jM) (k : Nat) (f g : Nat → Int32) : jPut (jPut mu k f) k g = jPut mu k g := by
  funext a
  by_cases h : a = k
  · subst h; rw [put_at, put_at]
  · rw [put_ne _ _ h, put_ne _ _ h, put_ne _ _ h]
theorem put_self (mu : jM) (k : Nat) : jPut mu k (mu k) = mu := by
  funext a
  by_cases h : a = k
  · subst h; rw [put_at]
  · rw [put_ne _ _ h]
theorem wr_put (mu : jM) (k j : Nat) (v : Int32) (f : Nat → Int32) : wr (jPut mu k f) k j v = jPut mu k (upd f j v) := by
  unfold wr
  rw [put_at, put_put]
/-- the first i places of a row, written -/
def fillTo (f : Nat → Int32) (v : Int32) (i : Nat) : Nat → Int32 := fun k => if k < i then v else f k
theorem fillTo_succ (f : Nat → Int32) (v : Int32) (i : Nat) : upd (fillTo f v i) i v = fillTo f v (i + 1) := by
  funext k
  simp only [upd, fillTo]
  by_cases h : k = i
  · subst h; simp
  · by_cases h2 : k < i
    · rw [if_neg h, if_pos h2, if_pos (by omega)]
    · rw [if_neg h, if_neg h2, if_neg (by omega)]
theorem fillTo_0 (f : Nat → Int32) (v : Int32) : fillTo f v 0 = f := by
  funext k; simp [fillTo]
section C30
variable {l : Launch} {G : jG} {mu : jM}
theorem c_fill (hl : l.stackTraces = false) (hG : jGok G) {a N : Nat} {rf : Nat → Option Nat} (v : Int32) (ha : jShp[a]? = some (.inr (0, N, rf))) (hN : N < 2 ^ 31) :
    jCv l G yJ7_fill_53178 cJ7_fill_53178 4 1 [.ref a, .int v] mu (fun mu' => mu' = jPut mu a (fillTo (mu a) v N)) := by
  refine jCv.of (pad := 2) hl hG (by decide) (Nat.le_of_ble_eq_true rfl) (fun X h => ?_)
  show J l G X _ 4 0 [.ref a, .int v, .float 0, .float 0] [] mu 0
  refine rJ7_fill_53178_0 h ha ?_
  have loop : ∀ (m i : Nat), i + m = N → J l G X (jRv G X (fun mu' => mu' = jPut mu a (fillTo (mu a) v N))) 4 5 [.ref a, .int v, .int (nI i), .int (nI N)] [] (jPut mu a (fillTo (mu a) v i)) 0 := by
    intro m
    induction m with
    | zero =>
      intro i hi
      have hi : i = N := by omega
      subst hi
      refine rJ7_fill_53178_5 h ha (fun q => absurd (Int32.le_refl _) q) (fun _ => ?_) (fun q => absurd (Int32.le_refl _) q)
      exact J_vret h dJ7_fill_53178_20 rfl
    | succ m ih =>
      intro i hi
      refine rJ7_fill_53178_5 h ha (fun _ => vp_in_nI (by omega) (by omega)) (fun q => absurd ((nI_leI (by omega) (by omega)).mp q) (by omega)) (fun _ => ?_)
      rw [nI_clamp (by omega), nI_1, wr_put, fillTo_succ]
      exact ih (i + 1) (by omega)
  have := loop N 0 (by omega)
  rw [fillTo_0, put_self] at this
  exact this
/-- Math.max, by the kit's own row -/
theorem J_max {X : jX} {Q : State → Prop} {cc : ByteArray} {nL pc n hg nc idx : Nat} {ret : Option FieldType} {own : String} {ls rest : List Value} {x y : Int32} (h : jOk l G X cc nL ret own hg nc) (d : decode cc pc = .ok (.invokestatic idx, 3)) (w1 : Cond.methodLink own idx Lib.Math.max.name ∈ jT) (hh : 1 ≤ hg) (hn : n ≤ nc) (hr : (rest.map fun v => v.category).sum ≤ 8)
    (kk : J l G X Q nL (pc + 3) ls (.int (if x < y then y else x) :: rest) mu n) : J l G X Q nL pc ls (.int y :: .int x :: rest) mu n := by
  obtain ⟨⟨p, e, R, s⟩, m, args, below, meth, c⟩ := X
  intro H locs Ls hP hS hL
  have q1 := h.2.2.2.2.2.2.2.2.2.2.1
  have q2 := h.2.2.2.2.2.2.2.2.2.2.2.1
  refine va_mmax h.1 h.2.1 (h.2.2.1.trans hL.1.symm) h.2.2.2.1 (h.2.2.2.2.1 _ w1) (h.2.2.2.2.1 _ w877) (h.2.2.2.2.1 _ w96) (h.2.2.2.2.1 _ w878) (by omega) (by rw [jcat]; omega) (by omega) (by omega) d (kk H locs Ls hP hS hL)
/-- what Integer.bitCount reckons -/
def bc_u (x k : Int32) : Int32 := (Int32.toUInt32 x >>> (Int32.toUInt32 k &&& Int32.toUInt32 31)).toInt32
def bc_1 (x : Int32) : Int32 := x - (bc_u x 1 &&& 1431655765)
def bc_2 (x : Int32) : Int32 := (x &&& 858993459) + (bc_u x 2 &&& 858993459)
def bc_3 (x : Int32) : Int32 := (x + bc_u x 4) &&& 252645135
def bc_4 (x : Int32) : Int32 := x + bc_u x 8
def bc_5 (x : Int32) : Int32 := x + bc_u x 16
def bc (x : Int32) : Int32 := bc_5 (bc_4 (bc_3 (bc_2 (bc_1 x)))) &&& 63
theorem c_bitCount (hl : l.stackTraces = false) (hG : jGok G) (x : Int32) : jCi l G yJ6_bitCount_0f7a4 cJ6_bitCount_0f7a4 1 1 (some .int) [.int x] mu (fun v mu' => v = bc x ∧ mu' = mu) := by
  refine jCi.of (pad := 0) hl hG (by decide) (Nat.le_of_ble_eq_true rfl) (fun X h => ?_)
  show J l G X _ 1 0 [.int x] [] mu 0
  refine rJ6_bitCount_0f7a4_0 h ?_
  exact J_iret h dJ6_bitCount_0f7a4_52 rfl ⟨rfl, rfl⟩
end C30
