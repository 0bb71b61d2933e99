/-! ===== Integer.bitCount, FREE and the lowest node of a set ===== -/
/-- the bits as a number -/
def un (x : Int32) : Nat := x.toBitVec.toNat
theorem un_lt (x : Int32) : un x < 2 ^ 32 := x.toBitVec.isLt
theorem un_inj {x y : Int32} (h : un x = un y) : x = y := Int32.toBitVec_inj.mp (BitVec.eq_of_toNat_eq h)
theorem un_add {x y : Int32} (h : un x + un y < 2 ^ 32) : un (x + y) = un x + un y := by
  unfold un at *
  rw [Int32.toBitVec_add, BitVec.toNat_add, Nat.mod_eq_of_lt h]
theorem un_sub {x y : Int32} (h : un y ≤ un x) : un (x - y) = un x - un y := by
  have := un_lt x
  unfold un at *
  rw [Int32.toBitVec_sub, BitVec.toNat_sub]
  omega
theorem un_and (x y : Int32) : un (x &&& y) = un x &&& un y := by
  unfold un
  rw [Int32.toBitVec_and, BitVec.toNat_and]
theorem un_u (x k : Int32) (j : Nat) (h : ((Int32.toUInt32 k &&& Int32.toUInt32 31).toBitVec % 32).toNat = j) : un (bc_u x k) = un x >>> j := by
  unfold un bc_u
  show ((Int32.toUInt32 x >>> (Int32.toUInt32 k &&& Int32.toUInt32 31)).toBitVec).toNat = _
  rw [UInt32.toBitVec_shiftRight]
  show ((Int32.toUInt32 x).toBitVec >>> ((Int32.toUInt32 k &&& Int32.toUInt32 31).toBitVec % 32)).toNat = _
  rw [BitVec.ushiftRight_eq', BitVec.toNat_ushiftRight, h]
  rfl
theorem un_nI {n : Nat} (h : n < 2 ^ 32) : un (nI n) = n := by
  unfold un nI
  show (BitVec.ofNat 32 n).toNat = n
  rw [BitVec.toNat_ofNat, Nat.mod_eq_of_lt h]
/-- digits of four bits -/
def dg : List Nat → Nat
  | [] => 0
  | d :: t => d + 16 * dg t
theorem and_dg {u v m n : Nat} (hu : u < 16) (hm : m < 16) : (u + 16 * v) &&& (m + 16 * n) = (u &&& m) + 16 * (v &&& n) := by
  apply Nat.eq_of_testBit_eq
  intro j
  have hum : u &&& m < 2 ^ 4 := Nat.lt_of_le_of_lt Nat.and_le_left hu
  rw [Nat.testBit_and, Nat.add_comm u, Nat.add_comm m, Nat.add_comm (u &&& m), show (16 : Nat) = 2 ^ 4 from rfl, Nat.testBit_two_pow_mul_add _ hu, Nat.testBit_two_pow_mul_add _ hm, Nat.testBit_two_pow_mul_add _ hum]
  split <;> rw [Nat.testBit_and]
theorem and_digs : ∀ (a b : List Nat), (∀ d ∈ a, d < 16) → (∀ d ∈ b, d < 16) → a.length = b.length → dg a &&& dg b = dg (List.zipWith (· &&& ·) a b)
  | [], [], _, _, _ => rfl
  | x :: a, y :: b, ha, hb, hl => by
    simp only [dg, List.zipWith_cons_cons]
    rw [and_dg (ha x (by simp)) (hb y (by simp)), and_digs a b (fun d q => ha d (by simp [q])) (fun d q => hb d (by simp [q])) (by simpa using hl)]
  | [], _ :: _, _, _, hl => by simp at hl
  | _ :: _, [], _, _, hl => by simp at hl
theorem sh_and (x k m : Nat) : (x >>> k) &&& m = (x &&& (m <<< k)) >>> k := by
  rw [Nat.shiftRight_and_distrib, Nat.shiftLeft_shiftRight]
/-- bits of a digit -/
def c4 (n : Nat) : Nat := n % 2 + n / 2 % 2 + n / 4 % 2 + n / 8 % 2
theorem dg1 : ∀ n, n < 16 → (n &&& 10) / 2 * 2 = n &&& 10 ∧ (n &&& 10) / 2 ≤ n ∧ n - (n &&& 10) / 2 < 16 := by decide
theorem dg2 : ∀ n, n < 16 → ((n - (n &&& 10) / 2) &&& 12) / 4 * 4 = ((n - (n &&& 10) / 2) &&& 12) ∧ ((n - (n &&& 10) / 2) &&& 3) + ((n - (n &&& 10) / 2) &&& 12) / 4 = c4 n ∧ c4 n ≤ 4 := by decide
theorem dg_add {f g h : Nat → Nat} : ∀ {l : List Nat}, (∀ n ∈ l, f n = g n + h n) → dg (l.map f) = dg (l.map g) + dg (l.map h)
  | [], _ => rfl
  | x :: t, q => by
    have ih := dg_add (l := t) (fun n hn => q n (by simp [hn]))
    have := q x (by simp)
    simp only [List.map_cons, dg]
    omega
theorem dg_mul {f g : Nat → Nat} (k : Nat) : ∀ {l : List Nat}, (∀ n ∈ l, f n = k * g n) → dg (l.map f) = k * dg (l.map g)
  | [], _ => rfl
  | x :: t, q => by
    have ih := dg_mul k (l := t) (fun n hn => q n (by simp [hn]))
    have := q x (by simp)
    simp only [List.map_cons, dg]
    rw [ih, this, Nat.mul_add, Nat.mul_left_comm]
theorem dg_and (m : Nat) (hm : m < 16) : ∀ {l : List Nat}, (∀ n ∈ l, n < 16) → dg l &&& dg (List.replicate l.length m) = dg (l.map (fun n => n &&& m))
  | [], _ => Nat.zero_and _
  | x :: t, q => by
    simp only [List.length_cons, List.replicate_succ, List.map_cons, dg]
    rw [and_dg (q x (by simp)) hm, dg_and m hm (fun n hn => q n (by simp [hn]))]
theorem dg_lt : ∀ {l : List Nat}, (∀ n ∈ l, n < 16) → dg l < 16 ^ l.length
  | [], _ => by decide
  | x :: t, q => by
    have ih := dg_lt (l := t) (fun n hn => q n (by simp [hn]))
    have := q x (by simp)
    simp only [List.length_cons, dg, Nat.pow_succ]
    omega
theorem bc_12 (x : Int32) (l : List Nat) (hl : ∀ n ∈ l, n < 16) (h8 : l.length = 8) (hx : un x = dg l) : un (bc_2 (bc_1 x)) = dg (l.map c4) := by
  have r10 : (1431655765 : Nat) <<< 1 = dg (List.replicate l.length 10) := by rw [h8]; decide
  have r12 : (858993459 : Nat) <<< 2 = dg (List.replicate l.length 12) := by rw [h8]; decide
  have r3 : un 858993459 = dg (List.replicate l.length 3) := by rw [h8]; decide
  have m1 : un (bc_u x 1 &&& 1431655765) = dg (l.map (fun n => (n &&& 10) / 2)) := by
    rw [un_and, un_u x 1 1 (by decide), show un 1431655765 = 1431655765 from by decide, sh_and, hx, r10, dg_and 10 (by omega) hl, dg_mul 2 (g := fun n => (n &&& 10) / 2) (fun n hn => by have := dg1 n (hl n hn); omega), Nat.shiftRight_eq_div_pow]
    omega
  have a1 : dg l = dg (l.map (fun n => n - (n &&& 10) / 2)) + dg (l.map (fun n => (n &&& 10) / 2)) := by
    rw [← dg_add (f := id) (fun n hn => by have := dg1 n (hl n hn); simp only [id]; omega), List.map_id]
  have y1 : un (bc_1 x) = dg (l.map (fun n => n - (n &&& 10) / 2)) := by
    unfold bc_1
    rw [un_sub (by rw [m1, hx]; omega), m1, hx]
    omega
  generalize hy : bc_1 x = y at y1
  have hl2 : ∀ n ∈ l.map (fun n => n - (n &&& 10) / 2), n < 16 := fun n hn => by
    obtain ⟨k, hk, rfl⟩ := List.mem_map.mp hn
    exact (dg1 k (hl k hk)).2.2
  have m2 : un (bc_u y 2 &&& 858993459) = dg (l.map (fun n => ((n - (n &&& 10) / 2) &&& 12) / 4)) := by
    rw [un_and, un_u y 2 2 (by decide), show un 858993459 = 858993459 from by decide, sh_and, y1, r12, ← List.length_map (f := fun n => n - (n &&& 10) / 2), dg_and 12 (by omega) hl2, List.map_map, dg_mul 4 (g := fun n => ((n - (n &&& 10) / 2) &&& 12) / 4) (fun n hn => by have := dg2 n (hl n hn); simp only [Function.comp]; omega), Nat.shiftRight_eq_div_pow]
    omega
  have m3 : un (y &&& 858993459) = dg (l.map (fun n => (n - (n &&& 10) / 2) &&& 3)) := by
    rw [un_and, r3, y1, ← List.length_map (f := fun n => n - (n &&& 10) / 2), dg_and 3 (by omega) hl2, List.map_map]
    rfl
  have a2 : dg (l.map c4) = dg (l.map (fun n => (n - (n &&& 10) / 2) &&& 3)) + dg (l.map (fun n => ((n - (n &&& 10) / 2) &&& 12) / 4)) := dg_add (fun n hn => by have := dg2 n (hl n hn); omega)
  have b2 : dg (l.map c4) < 2 ^ 32 := by
    have := dg_lt (l := l.map c4) (fun n hn => by
      obtain ⟨k, hk, rfl⟩ := List.mem_map.mp hn
      have := (dg2 k (hl k hk)).2.2
      omega)
    rw [List.length_map, h8] at this
    exact this
  unfold bc_2
  rw [un_add (by rw [m2, m3]; omega), m2, m3]
  omega
theorem bc_345 (z : Int32) (a b c d e f g h : Nat) (ha : a ≤ 4) (hb : b ≤ 4) (hc : c ≤ 4) (hd : d ≤ 4) (he : e ≤ 4) (hf : f ≤ 4) (hg : g ≤ 4) (hh : h ≤ 4) (hz : un z = dg [a, b, c, d, e, f, g, h]) : un (bc_5 (bc_4 (bc_3 z)) &&& 63) = a + b + c + d + e + f + g + h := by
  have m4 : un (bc_u z 4) = dg [b, c, d, e, f, g, h, 0] := by
    rw [un_u z 4 4 (by decide), hz, Nat.shiftRight_eq_div_pow]
    simp only [dg]
    omega
  have m5 : un (z + bc_u z 4) = dg [a + b, b + c, c + d, d + e, e + f, f + g, g + h, h] := by
    rw [un_add (by rw [m4, hz]; simp only [dg]; omega), m4, hz]
    simp only [dg]
    omega
  have m15 : ∀ n, n < 16 → n &&& 15 = n := by decide
  have y3 : un (bc_3 z) = (a + b) + 256 * (c + d) + 65536 * (e + f) + 16777216 * (g + h) := by
    unfold bc_3
    rw [un_and, m5, show un 252645135 = dg [15, 0, 15, 0, 15, 0, 15, 0] from by decide, and_digs _ _ (by simp; omega) (by simp) (by simp)]
    simp only [List.zipWith_cons_cons, List.zipWith_nil_left, dg, Nat.and_zero]
    rw [m15 _ (by omega), m15 _ (by omega), m15 _ (by omega), m15 _ (by omega)]
    omega
  clear m4 m5 hz
  have tail : ∀ (w : Int32) (p q r t : Nat), p ≤ 8 → q ≤ 8 → r ≤ 8 → t ≤ 8 → un w = p + 256 * q + 65536 * r + 16777216 * t → un (bc_5 (bc_4 w) &&& 63) = p + q + r + t := by
    intro w p q r t hp hq hr ht hw
    have d1 : un w / 256 = q + 256 * r + 65536 * t := by omega
    have y4 : un (bc_4 w) = (p + q) + 256 * (q + r) + 65536 * (r + t) + 16777216 * t := by
      unfold bc_4
      rw [un_add (by rw [un_u w 8 8 (by decide), Nat.shiftRight_eq_div_pow]; omega), un_u w 8 8 (by decide), Nat.shiftRight_eq_div_pow]
      omega
    generalize bc_4 w = v at y4
    have d2 : un v / 65536 = (r + t) + 256 * t := by omega
    have y5 : un (bc_5 v) = (p + q + r + t) + 256 * (q + r + t) + 65536 * (r + t) + 16777216 * t := by
      unfold bc_5
      rw [un_add (by rw [un_u v 16 16 (by decide), Nat.shiftRight_eq_div_pow]; omega), un_u v 16 16 (by decide), Nat.shiftRight_eq_div_pow]
      omega
    rw [un_and, y5, show un 63 = 2 ^ 6 - 1 from by decide, Nat.and_two_pow_sub_one_eq_mod]
    omega
  rw [tail _ _ _ _ _ (by omega) (by omega) (by omega) (by omega) y3]
  omega
theorem c4_le (n : Nat) : c4 n ≤ 4 := by unfold c4; omega
theorem bc_dg (x : Int32) (a b c d e f g h : Nat) (ha : a < 16) (hb : b < 16) (hc : c < 16) (hd : d < 16) (he : e < 16) (hf : f < 16) (hg : g < 16) (hh : h < 16) (hx : un x = dg [a, b, c, d, e, f, g, h]) : un (bc x) = c4 a + c4 b + c4 c + c4 d + c4 e + c4 f + c4 g + c4 h :=
  bc_345 _ _ _ _ _ _ _ _ _ (c4_le a) (c4_le b) (c4_le c) (c4_le d) (c4_le e) (c4_le f) (c4_le g) (c4_le h) (bc_12 x [a, b, c, d, e, f, g, h] (by simp; omega) rfl hx)
theorem bt_un (x : Int32) (i : Nat) : bt x i = decide (un x / 2 ^ i % 2 = 1) := by
  unfold bt un BitVec.getLsbD
  rw [Nat.testBit_eq_decide_div_mod_eq]
/-- Integer.bitCount is the number of bits -/
theorem bc_ct (x : Int32) : bc x = nI (fb_ct (bt x) 32) := by
  have hx := un_lt x
  have hd : ∀ i, un x / 16 ^ i % 16 < 16 := fun i => Nat.mod_lt _ (by omega)
  have key := bc_dg x (un x / 16 ^ 0 % 16) (un x / 16 ^ 1 % 16) (un x / 16 ^ 2 % 16) (un x / 16 ^ 3 % 16) (un x / 16 ^ 4 % 16) (un x / 16 ^ 5 % 16) (un x / 16 ^ 6 % 16) (un x / 16 ^ 7 % 16) (hd _) (hd _) (hd _) (hd _) (hd _) (hd _) (hd _) (hd _) (by simp only [dg]; omega)
  have hle : fb_ct (bt x) 32 ≤ 32 := fb_ct_le _ _
  apply un_inj
  rw [key, un_nI (by omega)]
  have hb : ∀ i, (if bt x i = true then 1 else 0) = un x / 2 ^ i % 2 := fun i => by
    rw [bt_un]
    have := Nat.mod_two_eq_zero_or_one (un x / 2 ^ i)
    by_cases q : un x / 2 ^ i % 2 = 1
    · rw [if_pos (by simpa using q), q]
    · rw [if_neg (by simpa using q)]; omega
  simp only [fb_ct, hb, c4]
  simp only [Nat.div_div_eq_div_mul, Nat.reducePow, Nat.div_one, Nat.reduceMul, show ∀ a : Nat, a % 16 % 2 = a % 2 from fun a => by omega, show ∀ a : Nat, a % 16 / 2 % 2 = a / 2 % 2 from fun a => by omega, show ∀ a : Nat, a % 16 / 4 % 2 = a / 4 % 2 from fun a => by omega, show ∀ a : Nat, a % 16 / 8 % 2 = a / 8 % 2 from fun a => by omega]
  omega
theorem ones_bc : ∀ k, k < 33 → bc (nI (2 ^ k - 1)) = nI k := by decide +kernel
theorem bt_nat (x : Int32) (i : Nat) : bt x i = (un x).testBit i := rfl
/-- low bits known: the number from them -/
theorem low_form {x : Nat} {k : Nat} (h : ∀ j, j < k → x.testBit j = true) (h2 : x.testBit k = false) : ∃ m, x = 2 ^ (k + 1) * m + (2 ^ k - 1) := by
  refine ⟨x / 2 ^ (k + 1), ?_⟩
  have hp : 0 < 2 ^ k := Nat.two_pow_pos k
  have hlt : 2 ^ k - 1 < 2 ^ (k + 1) := by rw [Nat.pow_succ]; omega
  apply Nat.eq_of_testBit_eq
  intro j
  rw [Nat.testBit_two_pow_mul_add _ hlt, Nat.testBit_two_pow_sub_one, Nat.testBit_div_two_pow]
  split
  · next q =>
    by_cases z : j < k
    · rw [h j z]; simp [z]
    · rw [show j = k by omega, h2]; simp
  · next q => rw [show j - (k + 1) + (k + 1) = j by omega]
theorem low_form0 {x : Nat} {k : Nat} (h : ∀ j, j < k → x.testBit j = false) (h2 : x.testBit k = true) : ∃ m, x = 2 ^ (k + 1) * m + 2 ^ k := by
  refine ⟨x / 2 ^ (k + 1), ?_⟩
  have hp : 0 < 2 ^ k := Nat.two_pow_pos k
  have hlt : 2 ^ k < 2 ^ (k + 1) := by rw [Nat.pow_succ]; omega
  apply Nat.eq_of_testBit_eq
  intro j
  rw [Nat.testBit_two_pow_mul_add _ hlt, Nat.testBit_two_pow, Nat.testBit_div_two_pow]
  split
  · next q =>
    by_cases z : j < k
    · rw [h j z]; simp; omega
    · rw [show j = k by omega, h2]; simp
  · next q => rw [show j - (k + 1) + (k + 1) = j by omega]
theorem bt_ones {k : Nat} (hk : k ≤ 32) (i : Nat) : bt (nI (2 ^ k - 1)) i = decide (i < k) := by
  rw [bt_nat, un_nI (Nat.lt_of_lt_of_le (Nat.sub_lt (Nat.two_pow_pos k) (by omega)) (Nat.pow_le_pow_right (by omega) hk)), Nat.testBit_two_pow_sub_one]
/-- FREE -/
theorem free_bc {x : Int32} {k : Nat} (hk : k ≤ 32) (h : ∀ j, j < k → bt x j = true) (h2 : k < 32 → bt x k = false) : bc (x &&& ((x + 1) ^^^ (-1))) = nI k := by
  rw [show x &&& ((x + 1) ^^^ (-1)) = nI (2 ^ k - 1) from ?_]
  · exact ones_bc k (by omega)
  apply b_ext
  intro i hi
  rw [bt_ones hk, b_and, b_xor, b_m1 i hi]
  rcases Nat.lt_or_ge k 32 with z | z
  · obtain ⟨m, hm⟩ := low_form (x := un x) (k := k) h (h2 z)
    have hp : 0 < 2 ^ k := Nat.two_pow_pos k
    have hl := un_lt x
    have hlt : 2 ^ k - 1 < 2 ^ (k + 1) := by rw [Nat.pow_succ]; omega
    have hlt2 : 2 ^ k < 2 ^ (k + 1) := by rw [Nat.pow_succ]; omega
    have hx1 : un (x + 1) = 2 ^ (k + 1) * m + 2 ^ k := by
      have he : 2 ^ 32 = 2 ^ (k + 1) * 2 ^ (31 - k) := by rw [← Nat.pow_add]; congr 1; omega
      have hmm : m < 2 ^ (31 - k) := by
        rw [he] at hl
        apply Nat.lt_of_mul_lt_mul_left (a := 2 ^ (k + 1))
        omega
      have : 2 ^ (k + 1) * m + 2 ^ (k + 1) ≤ 2 ^ 32 := by
        rw [he, ← Nat.mul_succ]
        exact Nat.mul_le_mul_left _ hmm
      rw [un_add (by show un x + 1 < _; omega)]
      show un x + 1 = _
      omega
    rw [bt_nat, bt_nat, hx1, hm, Nat.testBit_two_pow_mul_add _ hlt, Nat.testBit_two_pow_mul_add _ hlt2, Nat.testBit_two_pow_sub_one, Nat.testBit_two_pow]
    split
    · by_cases w : i < k
      · simp [w]; omega
      · simp [w]
    · next w => simp; omega
  · have hk32 : k = 32 := by omega
    subst hk32
    have hx : x = -1 := b_ext (fun i hi => by rw [h i hi, b_m1 i hi])
    subst hx
    rw [b_m1 i hi]
    have : ∀ i, i < 32 → (true && (bt (-1 + 1) i ^^ true)) = decide (i < 32) := by decide +kernel
    exact this i hi
/-- the lowest node of a set -/
theorem low_bc {x : Int32} {k : Nat} (hk : k < 32) (h : ∀ j, j < k → bt x j = false) (h2 : bt x k = true) : bc ((x &&& (-x)) - 1) = nI k := by
  obtain ⟨m, hm⟩ := low_form0 (x := un x) (k := k) h h2
  have hp : 0 < 2 ^ k := Nat.two_pow_pos k
  have hl := un_lt x
  have hlt2 : 2 ^ k < 2 ^ (k + 1) := by rw [Nat.pow_succ]; omega
  have he : 2 ^ 32 = 2 ^ (k + 1) * 2 ^ (31 - k) := by rw [← Nat.pow_add]; congr 1; omega
  have hmm : m < 2 ^ (31 - k) := by
    rw [he] at hl
    apply Nat.lt_of_mul_lt_mul_left (a := 2 ^ (k + 1))
    omega
  obtain ⟨r, hr⟩ : ∃ r, 2 ^ (31 - k) = m + 1 + r := ⟨2 ^ (31 - k) - (m + 1), by omega⟩
  have hneg : un (-x) = 2 ^ (k + 1) * r + 2 ^ k := by
    have e1 : un (-x) = (2 ^ 32 - un x) % 2 ^ 32 := by
      unfold un
      rw [Int32.toBitVec_neg, BitVec.toNat_neg]
    rw [e1, Nat.mod_eq_of_lt (by omega), hm, he, hr, Nat.mul_add, Nat.mul_add, Nat.mul_one]
    rw [Nat.pow_succ] at *
    omega
  have e2 : x &&& (-x) = nI (2 ^ k) := by
    have h32 : 2 ^ k < 2 ^ 32 := Nat.pow_lt_pow_right (by omega) hk
    apply un_inj
    rw [un_and, un_nI h32]
    apply Nat.eq_of_testBit_eq
    intro j
    rw [Nat.testBit_and, hm, hneg, Nat.testBit_two_pow_mul_add _ hlt2, Nat.testBit_two_pow_mul_add _ hlt2, Nat.testBit_two_pow]
    split
    · simp
    · next w =>
      have hx : m &&& r = 0 := by
        have : m + r + 1 = 2 ^ (31 - k) := by omega
        apply Nat.eq_of_testBit_eq
        intro j
        rw [Nat.testBit_and, Nat.zero_testBit]
        have hr2 : r = 2 ^ (31 - k) - (m + 1) := by omega
        by_cases q : j < 31 - k
        · rw [hr2, Nat.testBit_two_pow_sub_succ hmm]
          simp
          intro z _
          exact z
        · rw [Nat.testBit_lt_two_pow (Nat.lt_of_lt_of_le hmm (Nat.pow_le_pow_right (by omega) (by omega)))]
          simp
      have := congrArg (fun n => n.testBit (j - (k + 1))) hx
      simp only [Nat.testBit_and, Nat.zero_testBit] at this
      rw [this]
      simp; omega
  rw [e2, show nI (2 ^ k) - 1 = nI (2 ^ k - 1) from ?_]
  · exact ones_bc k (by omega)
  · have : ∀ k, k < 32 → nI (2 ^ k) - 1 = nI (2 ^ k - 1) := by decide +kernel
    exact this k hk
/-- the lowest zero -/
def lzF (x : Int32) : Nat → Nat → Nat
  | 0, k => k
  | f + 1, k => if bt x k then lzF x f (k + 1) else k
def lz (x : Int32) : Nat := lzF x 32 0
theorem lzF_ok (x : Int32) : ∀ (f k : Nat), k + f = 32 → (∀ j, j < k → bt x j = true) → lzF x f k ≤ 32 ∧ (∀ j, j < lzF x f k → bt x j = true) ∧ (lzF x f k < 32 → bt x (lzF x f k) = false)
  | 0, k, h, hj => ⟨by unfold lzF; omega, hj, fun q => by unfold lzF at q; omega⟩
  | f + 1, k, h, hj => by
    unfold lzF
    split
    · next q => exact lzF_ok x f (k + 1) (by omega) (fun j z => by
        rcases Nat.lt_or_ge j k with w | w
        · exact hj j w
        · rw [show j = k by omega]; exact q)
    · next q => exact ⟨by omega, hj, fun _ => by simpa using q⟩
theorem lz_bc (x : Int32) : bc (x &&& ((x + 1) ^^^ (-1))) = nI (lz x) := by
  have h := lzF_ok x 32 0 rfl (fun j q => absurd q (by omega))
  exact free_bc h.1 h.2.1 h.2.2
theorem bt_test2 (x : Int32) {k : Nat} (hk : k < 32) : ((x >>> (nI k &&& 31)) &&& 1) = 1 ↔ bt x k = true := by
  rw [← bt_test1 x hk]
  constructor
  · intro h; rw [h]; decide
  · intro h
    have : ∀ y : Int32, ¬ (y &&& 1) = 0 → (y &&& 1) = 1 := fun y hy => by
      apply b_ext
      intro i hi
      rw [b_and, b_1 i hi]
      by_cases z : i = 0
      · subst z
        rcases Bool.eq_false_or_eq_true (bt y 0) with w | w
        · simp [w]
        · exact absurd (b_ext (fun i hi => by
            rw [b_and, b_1 i hi, b_0]
            by_cases z : i = 0
            · subst z; simp [w]
            · simp [z])) hy
      · simp [z]
    exact this _ h
section C38
variable {l : Launch} {G : jG} {mu : jM}
theorem k_lowestZero (hl : l.stackTraces = false) (hG : jGok G) (x : Int32) : jCi l G yX8_lowestZero cX8_lowestZero 2 1 (some .int) [.int x] mu (fun v mu' => v = nI (lz x) ∧ mu' = mu) := by
  refine jCi.of (pad := 1) hl hG (by decide) (Nat.le_of_ble_eq_true rfl) (fun X h => ?_)
  show J l G X _ 2 0 [.int x, .float 0] [] mu 0
  refine rX8_lowestZero_0 h ?_
  have loop : ∀ (f k : Nat), k + f = 32 → lzF x f k = lz x → J l G X (jRi G X (fun v mu' => v = nI (lz x) ∧ mu' = mu)) 2 2 [.int x, .int (nI k)] [] mu 0 := by
    intro f
    induction f with
    | zero =>
      intro k hk he
      have hle : (32 : Int32) ≤ nI k := nI_le (a := 32) (by omega) (by omega)
      exact rX8_lowestZero_2 h (fun _ => rX8_lowestZero_23 h (J_iret h dX8_lowestZero_24 rfl ⟨by rw [← he]; rfl, rfl⟩)) (fun z => absurd hle z) (fun z => absurd hle z)
    | succ f ih =>
      intro k hk he
      have hle : ¬ (32 : Int32) ≤ nI k := nI_ge (b := 32) (by omega) (by omega)
      unfold lzF at he
      refine rX8_lowestZero_2 h (fun z => absurd z hle) (fun _ q => ?_) (fun _ q => ?_)
      · rw [bt_test2 x (by omega)] at q
        rw [if_neg q] at he
        exact rX8_lowestZero_23 h (J_iret h dX8_lowestZero_24 rfl ⟨by rw [← he], rfl⟩)
      · rw [bt_test2 x (by omega)] at q
        rw [if_pos q] at he
        rw [nI_1]
        exact ih (k + 1) (by omega) he
  exact loop 32 0 rfl rfl
theorem c_lowestNode (hl : l.stackTraces = false) (hG : jGok G) {x : Int32} {k : Nat} (hk : k < 32) (h1 : ∀ j, j < k → bt x j = false) (h2 : bt x k = true) : jCi l G yX7_lowestNode cX7_lowestNode 1 2 (some .int) [.int x] mu (fun v mu' => v = nI k ∧ mu' = mu) := by
  refine jCi.of (pad := 0) hl hG (by decide) (Nat.le_of_ble_eq_true rfl) (fun X h => ?_)
  show J l G X _ 1 0 [.int x] [] mu 0
  refine rX7_lowestNode_0 h ?_
  refine rX7_lowestNode_6 h (c_bitCount hl hG _) (by decide) (Nat.zero_le _) (fun v m1 e1 => ?_)
  obtain ⟨rfl, rfl⟩ := e1
  exact J_iret h dX7_lowestNode_9 rfl (by exact ⟨low_bc hk h1 h2, rfl⟩)
end C38
