/-! ===== the reference's run: what it holds; letters; what came ===== -/
def StR (Z : NT) (mu : jM) : Prop :=
  NetR Z.n Z.lk mu ∧ ProgR Z.pr mu ∧ (∀ x, x < Z.n → mu 82 x = parI (Z.par 1 x) ∧ mu 85 x = parI (Z.par 2 x)) ∧ ∀ k e, Z.lk[k]? = some e → mu 87 k = if Z.ch e.1 e.2 then 1 else 0
def RdR (rd op : Nat → Nat) (mu : jM) : Prop := ∀ a, a < 24 → mu 75 a = nI (rd a) ∧ mu 77 a = nI (op a)
def PsR (lk : Lk) (ps : PS) (mu : jM) : Prop := (∀ j, j < 192 → mu 76 j = ps.1 j) ∧ BoxR 71 72 lk 0 (fun _ => True) ps.2 mu ∧ BoxR 71 72 lk 1 (fun _ => True) ps.2 mu
def FlR (sd td al : Nat → Bool) (mu : jM) : Prop := ∀ a, a < 24 → mu 78 a = (if sd a then 1 else 0) ∧ mu 79 a = (if al a then 1 else 0) ∧ mu 80 a = (if td a then 1 else 0)
def CmR (n : Nat) (hd : Nat → Nat → Nat → Nat → Bool) (mu : jM) : Prop := ∀ K q b, 2 ≤ K → K ≤ 7 → q < 2 → b < 24 → mu 81 (16 * b + 8 * q + K) = nI (cnt n (hd K q b))
def LetR (lt : List Lt) (ct : Nat → Nat) (mu : jM) : Prop :=
  mu 58 38 = nI lt.length ∧ (∀ j x, lt[j]? = some x → mu 89 (5 * j) = nI x.1 ∧ mu 89 (5 * j + 1) = nI x.2.1 ∧ mu 89 (5 * j + 2) = nI x.2.2.1 ∧ mu 89 (5 * j + 3) = nI x.2.2.2.1 ∧ mu 89 (5 * j + 4) = x.2.2.2.2) ∧ ∀ c, c < 3 → mu 90 c = nI (ct c)
def SwR (sw : List (Nat × Nat)) (mu : jM) : Prop := mu 58 20 = nI (sw.length - 1) ∧ ∀ j e, sw[j]? = some e → mu 73 j = nI e.1 ∧ mu 74 j = nI e.2
def RepR (Z : NT) (s : RS) (mu : jM) : Prop := RdR s.rd s.op mu ∧ PsR Z.lk s.ps mu ∧ FlR s.sd s.td s.al mu ∧ CmR Z.n s.hd mu ∧ LetR s.lt s.ct mu ∧ (mu 58 19 = nI s.st ∧ mu 58 41 = nI s.wi) ∧ SwR s.sw mu
theorem RdR.congr {rd op : Nat → Nat} {mu mu' : jM} (h : RdR rd op mu) (h1 : mu' 75 = mu 75) (h2 : mu' 77 = mu 77) : RdR rd op mu' := fun a ha => by rw [h1, h2]; exact h a ha
theorem PsR.congr {lk : Lk} {ps : PS} {mu mu' : jM} (h : PsR lk ps mu) (h1 : mu' 76 = mu 76) (h2 : mu' 71 = mu 71) (h3 : mu' 72 = mu 72) : PsR lk ps mu' := ⟨fun j hj => by rw [h1]; exact h.1 j hj, h.2.1.congr h2 h3, h.2.2.congr h2 h3⟩
theorem FlR.congr {sd td al : Nat → Bool} {mu mu' : jM} (h : FlR sd td al mu) (h1 : mu' 78 = mu 78) (h2 : mu' 79 = mu 79) (h3 : mu' 80 = mu 80) : FlR sd td al mu' := fun a ha => by rw [h1, h2, h3]; exact h a ha
theorem CmR.congr {n : Nat} {hd : Nat → Nat → Nat → Nat → Bool} {mu mu' : jM} (h : CmR n hd mu) (h1 : mu' 81 = mu 81) : CmR n hd mu' := fun K q b k1 k2 k3 k4 => by rw [h1]; exact h K q b k1 k2 k3 k4
theorem LetR.congr {lt : List Lt} {ct : Nat → Nat} {mu mu' : jM} (h : LetR lt ct mu) (h38 : mu' 58 38 = mu 58 38) (h89 : mu' 89 = mu 89) (h90 : mu' 90 = mu 90) : LetR lt ct mu' := ⟨by rw [h38]; exact h.1, fun j x hx => by rw [h89]; exact h.2.1 j x hx, fun c hc => by rw [h90]; exact h.2.2 c hc⟩
theorem SwR.congr {sw : List (Nat × Nat)} {mu mu' : jM} (h : SwR sw mu) (h20 : mu' 58 20 = mu 58 20) (h73 : mu' 73 = mu 73) (h74 : mu' 74 = mu 74) : SwR sw mu' := ⟨by rw [h20]; exact h.1, fun j e he => by rw [h73, h74]; exact h.2 j e he⟩
theorem StR.congr {Z : NT} {mu mu' : jM} (h : StR Z mu) (hf : ∀ f, f = 1 ∨ f = 2 ∨ f = 9 → mu' 58 f = mu 58 f) (hc : ∀ c, (59 ≤ c ∧ c ≤ 62) ∨ c = 65 ∨ c = 82 ∨ c = 85 ∨ c = 87 → mu' c = mu c) : StR Z mu' :=
  ⟨h.1.congr (hf 1 (by omega)) (hf 2 (by omega)) (fun c k1 k2 => hc c (by omega)), h.2.1.congr (hf 9 (by omega)) (hc 65 (by omega)), fun x hx => by rw [hc 82 (by omega), hc 85 (by omega)]; exact h.2.2.1 x hx, fun k e he => by rw [hc 87 (by omega)]; exact h.2.2.2 k e he⟩
/-- what a run writes -/
def WQ : List Nat := [66, 67, 68, 69, 70, 71, 72, 75, 76, 77, 78, 79, 80, 81, 89, 90]
def FQ : List Nat := [38, 41]
theorem StR.run {Z : NT} {mu mu' : jM} (h : StR Z mu) (hs : SmR WQ FQ mu mu') : StR Z mu' :=
  h.congr (fun f hf => hs.2 f (by rcases hf with rfl | rfl | rfl <;> decide)) (fun c hc => hs.1 c (by unfold WQ; simp only [List.mem_cons, List.not_mem_nil, or_false]; omega) (by omega))
/-- only letters were added -/
theorem RepR.lets {Z : NT} {s : RS} {mu mu' : jM} (h : RepR Z s mu) {sd td al : Nat → Bool} {lt : List Lt} {ct : Nat → Nat} (hs : SmR [78, 79, 80, 89, 90] [38] mu mu') (hf : FlR sd td al mu') (hl : LetR lt ct mu') : RepR Z (s.rd, s.op, s.ps, sd, td, al, s.hd, lt, ct, s.st, s.wi, s.sw) mu' := by
  have hc : ∀ c, c < 78 ∨ c = 81 → c ≠ 58 → mu' c = mu c := fun c hc h58 => hs.1 c (by simp only [List.mem_cons, List.not_mem_nil, or_false]; omega) h58
  exact ⟨h.1.congr (hc 75 (by omega) (by omega)) (hc 77 (by omega) (by omega)), h.2.1.congr (hc 76 (by omega) (by omega)) (hc 71 (by omega) (by omega)) (hc 72 (by omega) (by omega)), hf, h.2.2.2.1.congr (hc 81 (by omega) (by omega)), hl, by rw [hs.2 19 (by decide), hs.2 41 (by decide)]; exact h.2.2.2.2.2.1, h.2.2.2.2.2.2.congr (hs.2 20 (by decide)) (hc 73 (by omega) (by omega)) (hc 74 (by omega) (by omega))⟩
theorem nd_cnt {n : Nat} : ∀ {L : List Nat}, L.Nodup → (∀ b ∈ L, b < n) → fb_ct (fun b => decide (b ∈ L)) n = L.length
  | [], _, _ => fb_ct_zero.mpr (fun k _ => by simp)
  | x :: t, hn, hb => by
    have hx := List.nodup_cons.mp hn
    have ih := nd_cnt hx.2 (fun b q => hb b (List.mem_cons_of_mem _ q))
    have h1 := fb_ct_upd (fun b => decide (b ∈ t)) true (hb x List.mem_cons_self)
    have h2 : fb_ct (fun b => decide (b ∈ x :: t)) n = fb_ct (fun k => if k = x then true else decide (k ∈ t)) n := fb_ct_cong (fun k _ => by
      by_cases e : k = x
      · simp [e]
      · simp [e])
    have h3 : decide (x ∈ t) = false := by simp [hx.1]
    rw [h2, List.length_cons, ← ih]
    rw [if_pos rfl] at h1
    simp only [h3] at h1
    exact h1
theorem ct_full {n : Nat} {p q : Nat → Bool} (h : ∀ k, k < n → p k = true → q k = true) : fb_ct p n = fb_ct q n ↔ ∀ k, k < n → q k = true → p k = true := by
  constructor
  · intro e
    have h1 : fb_ct q n = fb_ct p n + fb_ct (fun k => q k && !p k) n := by
      rw [← fb_ct_or (fun k _ z => by simp [z.1] at z)]
      exact fb_ct_cong (fun k hk => by
        have := h k hk
        cases hp : p k with
        | false => simp
        | true => simp [this hp])
    have h2 : fb_ct (fun k => q k && !p k) n = 0 := by omega
    intro k hk hq
    have := fb_ct_zero.mp h2 k hk
    simpa [hq] using this
  · intro h2
    exact fb_ct_cong (fun k hk => by
      have a1 := h k hk
      have a2 := h2 k hk
      cases hp : p k with
      | true => rw [a1 hp]
      | false =>
        cases hq : q k with
        | false => rfl
        | true => rw [a2 hq] at hp; cases hp)
theorem mxW_ub {rd : Nat → Nat} {a B v : Nat} : ∀ m, (∀ x, x < m → rd a - rd x ≤ B) → v ≤ B → mxW rd a m v ≤ B
  | 0, _, hv => hv
  | m + 1, h, hv => by
    show max (mxW rd a m v) (rd a - rd m) ≤ B
    have := mxW_ub m (fun x hx => h x (by omega)) hv
    have := h m (by omega)
    omega
section C64
variable {l : Launch} {G : jG} {mu : jM}
theorem k_send (hl : l.stackTraces = false) (hG : jGok G) {lt : List Lt} {ct : Nat → Nat} (hL : LetR lt ct mu) (hlen : lt.length < 4096) {K : Nat} (hK : K ≤ 7) (a b k : Nat) (v : Int32) :
    jCv l G yX8_send cX8_send 7 1 [.ref 58, .int (nI K), .int (nI a), .int (nI b), .int (nI k), .int v] mu (fun mu' => LetR (lt ++ [(K, a, b, k, v)]) (ctAdd ct [(K, a, b, k, v)]) mu' ∧ SmR [89, 90] [38] mu mu') := by
  refine jCv.of (pad := 1) hl hG (by decide) (Nat.le_of_ble_eq_true rfl) (fun X h => ?_)
  show J l G X _ 7 0 [.ref 58, .int (nI K), .int (nI a), .int (nI b), .int (nI k), .int v, .float 0] [] mu 0
  have e1 : mu 58 38 = nI lt.length := hL.1
  have c0 : 5 * mu 58 38 = nI (5 * lt.length) := by rw [e1, nL5, nI_mul]
  have c1 : 5 * mu 58 38 + 1 = nI (5 * lt.length + 1) := by rw [c0, nI_1]
  have c2 : 5 * mu 58 38 + 2 = nI (5 * lt.length + 2) := by rw [c0, nL2, nI_add]
  have c3 : 5 * mu 58 38 + 3 = nI (5 * lt.length + 3) := by rw [c0, nL3, nI_add]
  have c4 : 5 * mu 58 38 + 4 = nI (5 * lt.length + 4) := by rw [c0, nL4, nI_add]
  have key : ∀ c, c < 3 → c = min K 2 → ∀ x : Int32, x = nI c → LetR (lt ++ [(K, a, b, k, v)]) (ctAdd ct [(K, a, b, k, v)]) (wr (wr (wr (wr (wr (wr (wr mu 89 (5 * lt.length) (nI K)) 89 (5 * lt.length + 1) (nI a)) 89 (5 * lt.length + 2) (nI b)) 89 (5 * lt.length + 3) (nI k)) 89 (5 * lt.length + 4) v) 58 38 (nI lt.length + 1)) 90 x.toNatClampNeg (mu 90 x.toNatClampNeg + 1)) := by
    intro c hc hcK x hx
    rw [hx, nI_clamp (by omega)]
    refine ⟨?_, fun j y hy => ?_, fun c' hc' => ?_⟩
    · show nI lt.length + 1 = _
      rw [List.length_append, nI_1]; rfl
    · have rd : ∀ i, (wr (wr (wr (wr (wr (wr (wr mu 89 (5 * lt.length) (nI K)) 89 (5 * lt.length + 1) (nI a)) 89 (5 * lt.length + 2) (nI b)) 89 (5 * lt.length + 3) (nI k)) 89 (5 * lt.length + 4) v) 58 38 (nI lt.length + 1)) 90 c (mu 90 c + 1)) 89 i = if i = 5 * lt.length + 4 then v else if i = 5 * lt.length + 3 then nI k else if i = 5 * lt.length + 2 then nI b else if i = 5 * lt.length + 1 then nI a else if i = 5 * lt.length then nI K else mu 89 i := fun i => rfl
      rw [rd, rd, rd, rd, rd]
      rw [List.getElem?_append] at hy
      split at hy
      · next q =>
        rw [if_neg (by omega), if_neg (by omega), if_neg (by omega), if_neg (by omega), if_neg (by omega), if_neg (by omega), if_neg (by omega), if_neg (by omega), if_neg (by omega), if_neg (by omega), if_neg (by omega), if_neg (by omega), if_neg (by omega), if_neg (by omega), if_neg (by omega), if_neg (by omega), if_neg (by omega), if_neg (by omega), if_neg (by omega), if_neg (by omega), if_neg (by omega), if_neg (by omega), if_neg (by omega), if_neg (by omega), if_neg (by omega)]
        exact hL.2.1 j y hy
      · next q =>
        have hj : j = lt.length := by
          have := (List.getElem?_eq_some_iff.mp hy).1
          simp at this
          omega
        subst hj
        rw [Nat.sub_self] at hy
        cases hy
        simp
    · show upd (mu 90) c (mu 90 c + 1) c' = nI (ctAdd ct [(K, a, b, k, v)] c')
      unfold ctAdd
      rw [List.countP_singleton]
      simp only [upd]
      by_cases e : c' = c
      · rw [if_pos e, hL.2.2 c hc, nI_1, e]
        congr 1
        simp [hcK]
      · rw [if_neg e, hL.2.2 c' hc']
        have : ¬ min K 2 = c' := fun z => e (z.symm.trans hcK.symm)
        simp [this]
  have sm : ∀ c (x : Int32), SmR [89, 90] [38] mu (wr (wr (wr (wr (wr (wr (wr mu 89 (5 * lt.length) (nI K)) 89 (5 * lt.length + 1) (nI a)) 89 (5 * lt.length + 2) (nI b)) 89 (5 * lt.length + 3) (nI k)) 89 (5 * lt.length + 4) v) 58 38 (nI lt.length + 1)) 90 c x) := fun c x =>
    ((((((SmR.wr (by decide) (by decide)).trans' (SmR.wr (by decide) (by decide))).trans' (SmR.wr (by decide) (by decide))).trans' (SmR.wr (by decide) (by decide))).trans' (SmR.wr (by decide) (by decide))).trans' (SmR.fld (by decide))).trans' (SmR.wr (by decide) (by decide))
  have v3 : ¬ 2 ≤ nI K → vp_in (nI K) 3 := fun q => vp_in_nI (by
    rcases Nat.lt_or_ge K 2 with z | z
    · omega
    · exact absurd (nI_le (a := 2) z (by omega)) q) (by omega)
  refine rX8_send_0 h (by rw [c0]; exact vp_in_nI (by omega) (by omega)) (by rw [c1]; exact vp_in_nI (by omega) (by omega)) (by rw [c2]; exact vp_in_nI (by omega) (by omega)) (by rw [c3]; exact vp_in_nI (by omega) (by omega)) (by rw [c4]; exact vp_in_nI (by omega) (by omega)) v3 v3 (fun q => ?_) (fun q => ?_)
  · rw [c1, c2, c3, c4, c0, e1, nI_clamp (by omega), nI_clamp (by omega), nI_clamp (by omega), nI_clamp (by omega), nI_clamp (by omega)]
    have hK2 : 2 ≤ K := by
      rcases Nat.lt_or_ge K 2 with z | z
      · exact absurd q (nI_ge (b := 2) z (by omega))
      · exact z
    exact J_vret h dX8_send_108 ⟨key 2 (by omega) (by omega) 2 rfl, sm _ _⟩
  · rw [c1, c2, c3, c4, c0, e1, nI_clamp (by omega), nI_clamp (by omega), nI_clamp (by omega), nI_clamp (by omega), nI_clamp (by omega)]
    have hK2 : K < 2 := by
      rcases Nat.lt_or_ge K 2 with z | z
      · exact z
      · exact absurd (nI_le (a := 2) z (by omega)) q
    exact J_vret h dX8_send_108 ⟨key K (by omega) (by omega) (nI K) rfl, sm _ _⟩
theorem k_spot (hl : l.stackTraces = false) (hG : jGok G) (b K : Nat) {k : Nat} (hk : k < 1024) : jCi l G yX8_spot cX8_spot 3 1 (some .int) [.int (nI b), .int (nI K), .int (nI k)] mu (fun v mu' => v = nI (16 * b + 8 * (k % 2) + K) ∧ mu' = mu) := by
  refine jCi.of (pad := 0) hl hG (by decide) (Nat.le_of_ble_eq_true rfl) (fun X h => ?_)
  show J l G X _ 3 0 [.int (nI b), .int (nI K), .int (nI k)] [] mu 0
  refine rX8_spot_0 h ?_
  rw [nI_mod2 k hk, nL16, nL8, nI_mul, nI_mul, nI_add, nI_add]
  exact J_iret h dX8_spot_13 rfl ⟨rfl, rfl⟩
theorem k_cameTo (hl : l.stackTraces = false) (hG : jGok G) {Z : NT} {s : RS} (hR : RepR Z s mu) {a K : Nat} (ha : a < 24) (hr : s.rd a ≤ 500) (hK : 2 ≤ K) (hK7 : K ≤ 7) : jCi l G yX8_cameTo cX8_cameTo 3 2 (some .int) [.ref 58, .int (nI a), .int (nI K)] mu (fun v mu' => v = nI (fb_ct (hrd s K a) Z.n) ∧ mu' = mu) := by
  refine jCi.of (pad := 0) hl hG (by decide) (Nat.le_of_ble_eq_true rfl) (fun X h => ?_)
  show J l G X _ 3 0 [.ref 58, .int (nI a), .int (nI K)] [] mu 0
  refine rX8_cameTo_0 h (vp_in_nI ha (by omega)) ?_
  rw [nI_clamp (by omega), (hR.1 a ha).1]
  refine rX8_cameTo_12 h (k_spot hl hG a K (by omega)) (by decide) (Nat.zero_le _) (fun v m1 e1 => ?_)
  obtain ⟨rfl, rfl⟩ := e1
  refine rX8_cameTo_15 h (vp_in_nI (by omega) (by omega)) ?_
  rw [nI_clamp (by omega), hR.2.2.2.1 K (s.rd a % 2) a hK hK7 (by omega) ha]
  exact J_iret h dX8_cameTo_16 rfl ⟨rfl, rfl⟩
theorem k_wayOf (hl : l.stackTraces = false) (hG : jGok G) {sw : List (Nat × Nat)} (hw : SwR sw mu) (hok : SwOk sw) {k : Nat} (hk : k ≤ 500) : jCi l G yX8_wayOf cX8_wayOf 4 1 (some .int) [.ref 58, .int (nI k)] mu (fun v mu' => v = nI (wy sw k) ∧ mu' = mu) := by
  refine jCi.of (pad := 2) hl hG (by decide) (Nat.le_of_ble_eq_true rfl) (fun X h => ?_)
  show J l G X _ 4 0 [.ref 58, .int (nI k), .float 0, .float 0] [] mu 0
  have h1 := hok.1
  have h9 := hok.2.1
  obtain ⟨e0, h0⟩ : ∃ e, sw[0]? = some e := ⟨_, List.getElem?_eq_getElem (by omega)⟩
  refine rX8_wayOf_0 h ?_
  have st : mu 74 (0 : Int32).toNatClampNeg = nI (wy (sw.take 1) k) := by
    rw [wy_take sw h0, if_pos (by rw [hok.2.2.2 e0 h0]; omega)]
    exact (hw.2 0 e0 h0).2
  rw [st]
  have loop : ∀ (w j : Nat), j + w = sw.length → 1 ≤ j → J l G X (jRi G X (fun v mu' => v = nI (wy sw k) ∧ mu' = mu)) 4 9 [.ref 58, .int (nI k), .int (nI (wy (sw.take j) k)), .int (nI j)] [] mu 0 := by
    intro w
    induction w with
    | zero =>
      intro j hj hj1
      have hlt : mu 58 20 < nI j := by rw [hw.1]; exact nI_lt (by omega) (by omega)
      refine rX8_wayOf_9 h (fun z => absurd hlt z) (fun z => absurd hlt z) (fun _ => ?_) (fun z => absurd hlt z) (fun z => absurd hlt z)
      rw [List.take_of_length_le (by omega)]
      exact J_iret h dX8_wayOf_45 rfl ⟨rfl, rfl⟩
    | succ w ih =>
      intro j hj hj1
      obtain ⟨e, he⟩ : ∃ e, sw[j]? = some e := ⟨_, List.getElem?_eq_getElem (by omega : j < sw.length)⟩
      have hlt : ¬ mu 58 20 < nI j := by rw [hw.1]; exact nI_nlt (by omega) (by omega)
      have he1 := (hok.2.2.1 e (List.mem_of_getElem? he)).1
      have v9 : vp_in (nI j) 9 := vp_in_nI (by omega) (by omega)
      have hc : (nI j).toNatClampNeg = j := nI_clamp (by omega)
      have ht := wy_take sw he k
      refine rX8_wayOf_9 h (fun _ => v9) (fun _ _ => v9) (fun z => absurd z hlt) (fun _ q => ?_) (fun _ q => ?_)
      · rw [hc, (hw.2 j e he).1, nI_ltI (by omega) (by omega)] at q
        rw [if_neg (by omega)] at ht
        rw [← ht, nI_1]
        exact ih (j + 1) (by omega) (by omega)
      · rw [hc, (hw.2 j e he).1, nI_ltI (by omega) (by omega)] at q
        rw [if_pos (by omega)] at ht
        rw [hc, (hw.2 j e he).2, ← ht, nI_1]
        exact ih (j + 1) (by omega) (by omega)
  exact loop (sw.length - 1) 1 (by omega) (by omega)
/-- how far the rounds are apart, when a node went on -/
theorem k_measure (hl : l.stackTraces = false) (hG : jGok G) {n : Nat} (hn24 : n ≤ 24) (h1 : mu 58 1 = nI n) {rd : Nat → Nat} (hrd : ∀ x, x < 24 → mu 75 x = nI (rd x)) (hb : ∀ x, rd x ≤ 1000) {a : Nat} (ha : a < n) {v : Nat} (hv : v ≤ 1000) (h41 : mu 58 41 = nI v) (hx : ∀ x y, x < n → y < n → x ≠ a → rd x ≤ rd y + v) : jCv l G yX8_measure cX8_measure 4 1 [.ref 58] mu (fun mu' => mu' = wr mu 58 41 (nI (mxW rd a n v))) := by
  refine jCv.of (pad := 3) hl hG (by decide) (Nat.le_of_ble_eq_true rfl) (fun X h => ?_)
  show J l G X _ 4 0 [.ref 58, .float 0, .float 0, .float 0] [] mu 0
  refine rX8_measure_0 h ?_
  have e0 : mu 75 (0 : Int32).toNatClampNeg = nI (rd 0) := hrd 0 (by omega)
  rw [e0]
  have loop : ∀ (w x lo hi : Nat), x + w = n → (∀ y, y < x → lo ≤ rd y ∧ rd y ≤ hi) → (∃ y, y < n ∧ rd y = lo) → (∃ y, y < n ∧ rd y = hi) → J l G X (jRv G X (fun mu' => mu' = wr mu 58 41 (nI (mxW rd a n v)))) 4 16 [.ref 58, .int (nI lo), .int (nI hi), .int (nI x)] [] mu 0 := by
    intro w
    induction w with
    | zero =>
      intro x lo hi hxn hlh hlo hhi
      have hle : mu 58 1 ≤ nI x := by rw [h1]; exact nI_le (by omega) (by omega)
      obtain ⟨y1, hy1, rfl⟩ := hlo
      obtain ⟨y2, hy2, rfl⟩ := hhi
      have hll := (hlh y1 (by omega)).2
      have hbd := hb y2
      have hW1 := mxW_le rd a v n
      have hW2 := mxW_at rd a v n y1 hy1
      have hW3 : mxW rd a n v ≤ max v (rd y2 - rd y1) := mxW_ub n (fun x' hx' => by
        have := hlh x' (by omega)
        have := hlh a (by omega)
        omega) (by omega)
      have hcase : rd y2 ≤ rd y1 + v ∨ y2 = a := by
        by_cases e : y2 = a
        · exact Or.inr e
        · exact Or.inl (hx y2 y1 hy2 hy1 e)
      have hs : nI (rd y2) - nI (rd y1) = nI (rd y2 - rd y1) := nI_sub hll
      have hcmp : (nI (rd y2) - nI (rd y1) ≤ mu 58 41) ↔ rd y2 - rd y1 ≤ v := by rw [hs, h41, nI_leI (by omega) (by omega)]
      refine rX8_measure_16 h (fun z => absurd hle z) (fun z => absurd hle z) (fun z => absurd hle z) (fun z => absurd hle z) (fun z => absurd hle z) (fun z => absurd hle z) (fun _ q => ?_) (fun _ q => ?_) (fun z => absurd hle z) (fun z => absurd hle z) (fun z => absurd hle z) (fun z => absurd hle z)
      · rw [hcmp] at q
        have : mxW rd a n v = v := by omega
        rw [this, h41]
        exact J_vret h dX8_measure_96 rfl
      · rw [hcmp] at q
        rw [hs]
        have : mxW rd a n v = rd y2 - rd y1 := by
          rcases hcase with z | z
          · omega
          · subst z; omega
        rw [this]
        exact J_vret h dX8_measure_96 rfl
    | succ w ih =>
      intro x lo hi hxn hlh hlo hhi
      have hle : ¬ mu 58 1 ≤ nI x := by rw [h1]; exact nI_ge (by omega) (by omega)
      have vx : vp_in (nI x) 24 := vp_in_nI (by omega) (by omega)
      have hc : (nI x).toNatClampNeg = x := nI_clamp (by omega)
      have hbx := hb x
      have hlo0 : lo ≤ 1000 := by obtain ⟨y, -, rfl⟩ := hlo; exact hb y
      have hhi0 : hi ≤ 1000 := by obtain ⟨y, -, rfl⟩ := hhi; exact hb y
      refine rX8_measure_16 h (fun _ => vx) (fun _ _ => vx) (fun _ _ _ => vx) (fun _ _ => vx) (fun _ _ => vx) (fun _ _ _ => vx) (fun z => absurd z hle) (fun z => absurd z hle) (fun _ q1 q2 => ?_) (fun _ q1 q2 => ?_) (fun _ q1 q2 => ?_) (fun _ q1 q2 => ?_)
      all_goals rw [hc, hrd x (by omega), nI_leI (by omega) (by omega)] at q1 q2
      all_goals rw [nI_1]
      · refine ih (x + 1) lo hi (by omega) (fun y hy => ?_) hlo hhi
        by_cases e : y = x
        · subst e; exact ⟨q1, q2⟩
        · exact hlh y (by omega)
      · rw [hc, hrd x (by omega)]
        refine ih (x + 1) lo (rd x) (by omega) (fun y hy => ?_) hlo ⟨x, by omega, rfl⟩
        by_cases e : y = x
        · subst e; exact ⟨q1, Nat.le_refl _⟩
        · have := hlh y (by omega); omega
      · rw [hc, hrd x (by omega)]
        refine ih (x + 1) (rd x) hi (by omega) (fun y hy => ?_) ⟨x, by omega, rfl⟩ hhi
        by_cases e : y = x
        · subst e; exact ⟨Nat.le_refl _, q2⟩
        · have := hlh y (by omega); omega
      · rw [hc, hrd x (by omega)]
        refine ih (x + 1) (rd x) (rd x) (by omega) (fun y hy => ?_) ⟨x, by omega, rfl⟩ ⟨x, by omega, rfl⟩
        by_cases e : y = x
        · subst e; exact ⟨Nat.le_refl _, Nat.le_refl _⟩
        · have := hlh y (by omega); omega
  exact loop n 0 (rd 0) (rd 0) (by omega) (fun y hy => absurd hy (Nat.not_lt_zero _)) ⟨0, by omega, rfl⟩ ⟨0, by omega, rfl⟩
theorem k_clearNode (hl : l.stackTraces = false) (hG : jGok G) {a : Nat} (ha : a < 24) : jCv l G yX8_clearNode cX8_clearNode 2 1 [.ref 58, .int (nI a)] mu (fun mu' => mu' = wr (wr (wr (wr mu 77 a 0) 78 a 0) 79 a 0) 80 a 0) := by
  refine jCv.of (pad := 0) hl hG (by decide) (Nat.le_of_ble_eq_true rfl) (fun X h => ?_)
  show J l G X _ 2 0 [.ref 58, .int (nI a)] [] mu 0
  have va : vp_in (nI a) 24 := vp_in_nI ha (by omega)
  refine rX8_clearNode_0 h va va va va ?_
  rw [nI_clamp (by omega), show vp_nar .boolean 0 = 0 from rfl]
  exact J_vret h dX8_clearNode_28 rfl
/-- what came is taken in -/
theorem k_takeIn (hl : l.stackTraces = false) (hG : jGok G) {n : Nat} {lk : Lk} (hok : NetOk n lk) (hN : NetR n lk mu) {bx : Bx} {q : Nat} (hq : q < 2) (hB : BoxR 71 72 lk q (fun _ => True) bx mu) {a : Nat} (ha : a < 24) : jCv l G yX8_takeIn cX8_takeIn 5 2 [.ref 58, .int (nI a), .int (nI q)] mu (fun mu' => (∀ p, p < (nbl lk a).length → mu' 67 p = (if (bx q a p).isSome then 1 else 0) ∧ ∀ v, bx q a p = some v → mu' 68 p = v) ∧ SmR [67, 68] [] mu mu') := by
  refine jCv.of (pad := 2) hl hG (by decide) (Nat.le_of_ble_eq_true rfl) (fun X h => ?_)
  show J l G X _ 5 0 [.ref 58, .int (nI a), .int (nI q), .float 0, .float 0] [] mu 0
  have h24 := nbl24 hok a
  have hca : (nI a).toNatClampNeg = a := nI_clamp (by omega)
  have va : vp_in (nI a) 24 := vp_in_nI ha (by omega)
  have hnpl : (nbl lk a).length = (pll lk a).length := by rw [nbl_eq hok, List.length_map]
  refine rX8_takeIn_0 h ?_
  have loop : ∀ (w p : Nat) (m1 : jM), p + w = (nbl lk a).length → (∀ p', p' < p → m1 67 p' = (if (bx q a p').isSome then 1 else 0) ∧ ∀ v, bx q a p' = some v → m1 68 p' = v) → SmR [67, 68] [] mu m1 →
      J l G X (jRv G X (fun mu' => (∀ p, p < (nbl lk a).length → mu' 67 p = (if (bx q a p).isSome then 1 else 0) ∧ ∀ v, bx q a p = some v → mu' 68 p = v) ∧ SmR [67, 68] [] mu mu')) 5 2 [.ref 58, .int (nI a), .int (nI q), .int (nI p), .float 0] [] m1 0 := by
    intro w
    induction w with
    | zero =>
      intro p m1 hp q1 q2
      have N1 := hN.same q2 (by decide) (by decide)
      have hle : m1 61 (nI a).toNatClampNeg ≤ nI p := by rw [hca, (N1.2.2.2 a ha).1, ← hnpl]; exact nI_le (by omega) (by omega)
      refine rX8_takeIn_2 h va (fun z => absurd hle z) (fun _ => ?_) (fun z => absurd hle z)
      exact J_vret h dX8_takeIn_67 ⟨fun p' hp' => q1 p' (by omega), q2⟩
    | succ w ih =>
      intro p m1 hp q1 q2
      have N1 := hN.same q2 (by decide) (by decide)
      have hle : ¬ m1 61 (nI a).toNatClampNeg ≤ nI p := by rw [hca, (N1.2.2.2 a ha).1, ← hnpl]; exact nI_ge (by omega) (by omega)
      obtain ⟨lp, hlp⟩ : ∃ lp, (pll lk a)[p]? = some lp := ⟨_, List.getElem?_eq_getElem (by omega : p < (pll lk a).length)⟩
      obtain ⟨e, he, hll, -, -⟩ := port_link hok hlp
      have c1 : 24 * nI a + nI p = nI (24 * a + p) := by rw [nL24, nI_mul, nI_add]
      have k1 : (nI (24 * a + p)).toNatClampNeg = 24 * a + p := nI_clamp (by omega)
      refine rX8_takeIn_2 h va (fun _ => by rw [c1]; exact vp_in_nI (by omega) (by omega)) (fun z => absurd z hle) (fun _ => ?_)
      rw [c1, k1, (N1.2.2.2 a ha).2 p lp hlp]
      refine rX8_takeIn_29 h (k_towards hl hG hok N1.2.2.1 he ha) (by decide) (Nat.zero_le _) (fun v m2 e1 => ?_)
      obtain ⟨rfl, rfl⟩ := e1
      have hdr := dr_lt hok a hll
      have c2 : 120 * nI q + nI (dr lk lp a) = nI (120 * q + dr lk lp a) := by rw [nL120, nI_mul, nI_add]
      have k2 : (nI (120 * q + dr lk lp a)).toNatClampNeg = 120 * q + dr lk lp a := nI_clamp (by omega)
      have vd : vp_in (120 * nI q + nI (dr lk lp a)) 240 := by rw [c2]; exact vp_in_nI (by omega) (by omega)
      have vq : vp_in (nI p) 24 := vp_in_nI (by omega) (by omega)
      refine rX8_takeIn_32 h vd vq vd vq ?_
      rw [c2, k2, nI_1, nI_clamp (n := p) (by omega)]
      have hB1 := hB a p lp trivial hlp
      rw [← q2.1 71 (by decide) (by decide), ← q2.1 72 (by decide) (by decide)] at hB1
      rw [nar_b hB1.1]
      refine J_forget 4 (ih (p + 1) _ (by omega) (fun p' hp' => ?_) (q2.trans' ((SmR.wr (by decide) (by decide)).trans' (SmR.wr (by decide) (by decide)))))
      show (if p' = p then (if (bx q a p).isSome then 1 else 0) else m2 67 p') = _ ∧ ∀ v, bx q a p' = some v → (if p' = p then m2 72 (120 * q + dr lk lp a) else m2 68 p') = v
      by_cases z : p' = p
      · subst z
        rw [if_pos rfl, if_pos rfl]
        exact ⟨rfl, hB1.2⟩
      · rw [if_neg z, if_neg z]
        exact q1 p' (by omega)
  exact loop (nbl lk a).length 0 mu (by omega) (fun p' hp' => absurd hp' (Nat.not_lt_zero _)) SmR.rfl'
/-- letters to all neighbours -/
theorem k_toNeighbours (hl : l.stackTraces = false) (hG : jGok G) {n : Nat} {lk : Lk} (hok : NetOk n lk) (hN : NetR n lk mu) {lt : List Lt} {ct : Nat → Nat} (hL : LetR lt ct mu) {K : Nat} (hK : K ≤ 7) {a k : Nat} (ha : a < 24) (hk : mu 75 a = nI k) (hlen : (lt ++ toL K a k (nbl lk a)).length ≤ 512) :
    jCv l G yX8_toNeighbours cX8_toNeighbours 4 2 [.ref 58, .int (nI a), .int (nI K)] mu (fun mu' => LetR (lt ++ toL K a k (nbl lk a)) (ctAdd ct (toL K a k (nbl lk a))) mu' ∧ SmR [89, 90] [38] mu mu') := by
  refine jCv.of (pad := 1) hl hG (by decide) (Nat.le_of_ble_eq_true rfl) (fun X h => ?_)
  show J l G X _ 4 0 [.ref 58, .int (nI a), .int (nI K), .float 0] [] mu 0
  have h24 := nbl24 hok a
  have hn24 := hok.1
  have hca : (nI a).toNatClampNeg = a := nI_clamp (by omega)
  have va : vp_in (nI a) 24 := vp_in_nI ha (by omega)
  have hnpl : (nbl lk a).length = (pll lk a).length := by rw [nbl_eq hok, List.length_map]
  refine rX8_toNeighbours_0 h ?_
  have loop : ∀ (w p : Nat) (lt1 : List Lt) (ct1 : Nat → Nat) (m1 : jM), p + w = (nbl lk a).length → LetR lt1 ct1 m1 → SmR [89, 90] [38] mu m1 → lt1 ++ toL K a k ((nbl lk a).drop p) = lt ++ toL K a k (nbl lk a) → ctAdd ct1 (toL K a k ((nbl lk a).drop p)) = ctAdd ct (toL K a k (nbl lk a)) →
      J l G X (jRv G X (fun mu' => LetR (lt ++ toL K a k (nbl lk a)) (ctAdd ct (toL K a k (nbl lk a))) mu' ∧ SmR [89, 90] [38] mu mu')) 4 2 [.ref 58, .int (nI a), .int (nI K), .int (nI p)] [] m1 0 := by
    intro w
    induction w with
    | zero =>
      intro p lt1 ct1 m1 hp q1 q2 q3 q4
      have N1 := hN.same q2 (by decide) (by decide)
      have hle : m1 61 (nI a).toNatClampNeg ≤ nI p := by rw [hca, (N1.2.2.2 a ha).1, ← hnpl]; exact nI_le (by omega) (by omega)
      refine rX8_toNeighbours_2 h va (fun z => absurd hle z) (fun _ => ?_) (fun z => absurd hle z)
      rw [List.drop_eq_nil_of_le (by omega)] at q3 q4
      simp only [toL, List.map_nil, List.append_nil] at q3 q4
      rw [ctAdd_nil] at q4
      subst q4
      rw [q3] at q1
      exact J_vret h dX8_toNeighbours_47 ⟨q1, q2⟩
    | succ w ih =>
      intro p lt1 ct1 m1 hp q1 q2 q3 q4
      have N1 := hN.same q2 (by decide) (by decide)
      have hle : ¬ m1 61 (nI a).toNatClampNeg ≤ nI p := by rw [hca, (N1.2.2.2 a ha).1, ← hnpl]; exact nI_ge (by omega) (by omega)
      obtain ⟨b, hb⟩ : ∃ b, (nbl lk a)[p]? = some b := ⟨_, List.getElem?_eq_getElem (by omega : p < (nbl lk a).length)⟩
      obtain ⟨lp, e, hlp, he, -, -, -, -⟩ := port_nb hok hb
      obtain ⟨e', he', -, -, hother⟩ := port_link hok hlp
      rw [he] at he'
      have := Option.some.inj he'
      subst this
      rw [hb] at hother
      have hother := Option.some.inj hother
      have hdr : (nbl lk a).drop p = b :: (nbl lk a).drop (p + 1) := by
        rw [List.drop_eq_getElem_cons (by omega : p < (nbl lk a).length)]
        congr 1
        exact (List.getElem?_eq_some_iff.mp hb).2
      have c1 : 24 * nI a + nI p = nI (24 * a + p) := by rw [nL24, nI_mul, nI_add]
      have k1 : (nI (24 * a + p)).toNatClampNeg = 24 * a + p := nI_clamp (by omega)
      refine rX8_toNeighbours_2 h va (fun _ => by rw [c1]; exact vp_in_nI (by omega) (by omega)) (fun z => absurd z hle) (fun _ => ?_)
      rw [c1, k1, (N1.2.2.2 a ha).2 p lp hlp]
      refine rX8_toNeighbours_28 h (k_otherEnd hl hG hok N1.2.2.1 he ha) (by decide) (Nat.zero_le _) (fun v m2 e1 => ?_)
      obtain ⟨rfl, rfl⟩ := e1
      rw [← hother]
      refine rX8_toNeighbours_31 h va ?_
      rw [hca, q2.1 75 (by decide) (by decide), hk]
      rw [hdr] at q3 q4
      have hl1 : lt1.length < 512 := by
        have h9 := hlen
        rw [← q3] at h9
        simp only [toL, List.map_cons, List.length_append, List.length_cons] at h9
        omega
      refine rX8_toNeighbours_38 h (k_send hl hG q1 (by omega) hK a b k 0) (by decide) (Nat.zero_le _) (fun m3 e2 => ?_)
      refine rX8_toNeighbours_41 h ?_
      rw [nI_1]
      refine ih (p + 1) _ _ m3 (by omega) e2.1 (q2.trans' e2.2) ?_ ?_
      · rw [← q3, List.append_assoc]; rfl
      · rw [← q4, ctAdd_app]; rfl
  exact loop _ 0 lt ct mu (Nat.zero_add _) hL SmR.rfl' (by rw [List.drop_zero]) (by rw [List.drop_zero])
theorem par_eq {n : Nat} (hn : n ≤ 24) {o : Option Nat} (h : ∀ y, o = some y → y < n) {a : Nat} (ha : a < n) : nI a = parI o ↔ o = some a := by
  cases o with
  | none =>
    simp only [parI]
    constructor
    · intro q
      have : nI a < 0 := by rw [q]; decide
      exact absurd this (nI_pos (by omega))
    · intro q; cases q
  | some y =>
    have := h y rfl
    simp only [parI]
    rw [nI_eq (by omega) (by omega)]
    constructor
    · intro q; rw [q]
    · intro q; cases q; rfl
theorem par_none {n : Nat} (hn : n ≤ 24) {o : Option Nat} (h : ∀ y, o = some y → y < n) : parI o = -1 ↔ o = none := by
  cases o with
  | none => simp [parI]
  | some y =>
    have := h y rfl
    simp only [parI]
    constructor
    · intro q
      have : nI y < 0 := by rw [q]; decide
      exact absurd this (nI_pos (by omega))
    · intro q; cases q
theorem ZOk.pn {n : Nat} {lk : Lk} {par : Nat → Nat → Option Nat} {grp : Nat → Nat → Nat} {ch : Nat → Nat → Bool} (hZ : ZOk n lk par grp ch) {v x y : Nat} (h : par v x = some y) : x < n ∧ y < n := by
  obtain ⟨dep, hdep⟩ := hZ.2.2.1
  have := hZ.1.nb (hdep v x y h).1
  exact ⟨this.2.1, this.1⟩
/-- letters to all children -/
theorem k_toChildren (hl : l.stackTraces = false) (hG : jGok G) {Z : NT} (hZ : ZOk Z.n Z.lk Z.par Z.grp Z.ch) (hS : StR Z mu) {lt : List Lt} {ct : Nat → Nat} (hL : LetR lt ct mu) {K : Nat} (hK : K ≤ 7) {a k v : Nat} (ha : a < Z.n) (hk : mu 75 a = nI k) {x : Int32} (hv : (v = 1 ∧ x = 0) ∨ (v = 2 ∧ x = 1)) (hlen : (lt ++ toL K a k (kids Z v a)).length ≤ 512) :
    jCv l G yX8_toChildren cX8_toChildren 5 2 [.ref 58, .int (nI a), .int (nI K), .int x] mu (fun mu' => LetR (lt ++ toL K a k (kids Z v a)) (ctAdd ct (toL K a k (kids Z v a))) mu' ∧ SmR [89, 90] [38] mu mu') := by
  refine jCv.of (pad := 1) hl hG (by decide) (Nat.le_of_ble_eq_true rfl) (fun X h => ?_)
  show J l G X _ 5 0 [.ref 58, .int (nI a), .int (nI K), .int x, .float 0] [] mu 0
  have hn24 := hZ.1.1
  have hca : (nI a).toNatClampNeg = a := nI_clamp (by omega)
  have va : vp_in (nI a) 24 := vp_in_nI (by omega) (by omega)
  refine rX8_toChildren_0 h ?_
  have loop : ∀ (w p : Nat) (lt1 : List Lt) (ct1 : Nat → Nat) (m1 : jM), p + w = Z.n → LetR lt1 ct1 m1 → SmR [89, 90] [38] mu m1 → lt1 ++ toL K a k ((List.range' p w).filter (kid Z v a)) = lt ++ toL K a k (kids Z v a) → ctAdd ct1 (toL K a k ((List.range' p w).filter (kid Z v a))) = ctAdd ct (toL K a k (kids Z v a)) →
      J l G X (jRv G X (fun mu' => LetR (lt ++ toL K a k (kids Z v a)) (ctAdd ct (toL K a k (kids Z v a))) mu' ∧ SmR [89, 90] [38] mu mu')) 5 3 [.ref 58, .int (nI a), .int (nI K), .int x, .int (nI p)] [] m1 0 := by
    intro w
    induction w with
    | zero =>
      intro p lt1 ct1 m1 hp q1 q2 q3 q4
      have hle : m1 58 1 ≤ nI p := by rw [q2.2 1 (by decide), hS.1.1]; exact nI_le (by omega) (by omega)
      refine rX8_toChildren_3 h (fun z => absurd hle z) (fun z => absurd hle z) (fun z => absurd hle z) (fun z => absurd hle z) (fun _ => ?_) (fun z => absurd hle z) (fun z => absurd hle z) (fun z => absurd hle z) (fun z => absurd hle z)
      simp only [List.range'_zero, List.filter_nil, toL, List.map_nil, List.append_nil] at q3 q4
      rw [ctAdd_nil] at q4
      subst q4
      rw [show List.map (fun b => (K, a, b, k, 0)) (kids Z v a) = toL K a k (kids Z v a) from rfl] at q3
      rw [q3] at q1
      exact J_vret h dX8_toChildren_58 ⟨q1, q2⟩
    | succ w ih =>
      intro p lt1 ct1 m1 hp q1 q2 q3 q4
      have hle : ¬ m1 58 1 ≤ nI p := by rw [q2.2 1 (by decide), hS.1.1]; exact nI_ge (by omega) (by omega)
      have hcp : (nI p).toNatClampNeg = p := nI_clamp (by omega)
      have vp : vp_in (nI p) 24 := vp_in_nI (by omega) (by omega)
      have hpp := hS.2.2.1 p (by omega)
      rw [List.range'_succ] at q3 q4
      have no : kid Z v a p = false → J l G X (jRv G X (fun mu' => LetR (lt ++ toL K a k (kids Z v a)) (ctAdd ct (toL K a k (kids Z v a))) mu' ∧ SmR [89, 90] [38] mu mu')) 5 52 [.ref 58, .int (nI a), .int (nI K), .int x, .int (nI p)] [] m1 0 := by
        intro hf
        refine rX8_toChildren_52 h ?_
        rw [nI_1]
        rw [List.filter_cons_of_neg (by rw [hf]; decide)] at q3 q4
        exact ih (p + 1) lt1 ct1 m1 (by omega) q1 q2 q3 q4
      have yes : kid Z v a p = true → J l G X (jRv G X (fun mu' => LetR (lt ++ toL K a k (kids Z v a)) (ctAdd ct (toL K a k (kids Z v a))) mu' ∧ SmR [89, 90] [38] mu mu')) 5 49 [.ref 58, .int (nI a), .int (nI K), .int x, .int (nI p)] [.int 0, .int (m1 75 (nI a).toNatClampNeg), .int (nI p), .int (nI a), .int (nI K), .ref 58] m1 0 := by
        intro hf
        rw [hca, q2.1 75 (by decide) (by decide), hk]
        rw [List.filter_cons_of_pos hf] at q3 q4
        have hl1 : lt1.length < 512 := by
          have h9 := hlen
          rw [← q3] at h9
          simp only [toL, List.map_cons, List.length_append, List.length_cons] at h9
          omega
        refine rX8_toChildren_49 h (k_send hl hG q1 (by omega) hK a p k 0) (by decide) (Nat.zero_le _) (fun m3 e2 => ?_)
        refine rX8_toChildren_52 h ?_
        rw [nI_1]
        refine ih (p + 1) _ _ m3 (by omega) e2.1 (q2.trans' e2.2) ?_ ?_
        · rw [← q3, List.append_assoc]; rfl
        · rw [← q4, ctAdd_app]; rfl
      have e82 : nI a = m1 82 (nI p).toNatClampNeg ↔ Z.par 1 p = some a := by rw [hcp, q2.1 82 (by decide) (by decide), hpp.1]; exact par_eq hn24 (fun y q => (hZ.pn q).2) ha
      have e85 : nI a = m1 85 (nI p).toNatClampNeg ↔ Z.par 2 p = some a := by rw [hcp, q2.1 85 (by decide) (by decide), hpp.2]; exact par_eq hn24 (fun y q => (hZ.pn q).2) ha
      rcases hv with ⟨rfl, rfl⟩ | ⟨rfl, rfl⟩
      · refine rX8_toChildren_3 h (fun _ _ => vp) (fun _ _ _ => va) (fun _ z => absurd rfl z) (fun _ z => absurd rfl z) (fun z => absurd z hle) (fun _ _ q => ?_) (fun _ _ q => ?_) (fun _ z => absurd rfl z) (fun _ z => absurd rfl z)
        · rw [e82] at q
          refine no ?_
          cases hk : kid Z 1 a p with
          | false => rfl
          | true => exact absurd (kid_iff.mp hk) q
        · rw [e82] at q
          exact yes (kid_iff.mpr q)
      · refine rX8_toChildren_3 h (fun _ z => absurd z (by decide)) (fun _ z => absurd z (by decide)) (fun _ _ => vp) (fun _ _ _ => va) (fun z => absurd z hle) (fun _ z => absurd z (by decide)) (fun _ z => absurd z (by decide)) (fun _ _ q => ?_) (fun _ _ q => ?_)
        · rw [e85] at q
          refine no ?_
          cases hk : kid Z 2 a p with
          | false => rfl
          | true => exact absurd (kid_iff.mp hk) q
        · rw [e85] at q
          exact yes (kid_iff.mpr q)
  exact loop Z.n 0 lt ct mu (Nat.zero_add _) hL SmR.rfl' (by unfold kids; rw [List.range_eq_range']) (by unfold kids; rw [List.range_eq_range'])
theorem k_childrenOf (hl : l.stackTraces = false) (hG : jGok G) {Z : NT} (hZ : ZOk Z.n Z.lk Z.par Z.grp Z.ch) (hS : StR Z mu) {a v : Nat} (ha : a < Z.n) {x : Int32} (hv : (v = 1 ∧ x = 0) ∨ (v = 2 ∧ x = 1)) :
    jCi l G yX8_childrenOf cX8_childrenOf 5 1 (some .int) [.ref 58, .int (nI a), .int x] mu (fun r mu' => r = nI (fb_ct (kid Z v a) Z.n) ∧ mu' = mu) := by
  refine jCi.of (pad := 2) hl hG (by decide) (Nat.le_of_ble_eq_true rfl) (fun X h => ?_)
  show J l G X _ 5 0 [.ref 58, .int (nI a), .int x, .float 0, .float 0] [] mu 0
  have hn24 := hZ.1.1
  refine rX8_childrenOf_0 h ?_
  have loop : ∀ (w p : Nat), p + w = Z.n → J l G X (jRi G X (fun r mu' => r = nI (fb_ct (kid Z v a) Z.n) ∧ mu' = mu)) 5 5 [.ref 58, .int (nI a), .int x, .int (nI (fb_ct (kid Z v a) p)), .int (nI p)] [] mu 0 := by
    intro w
    induction w with
    | zero =>
      intro p hp
      have hle : mu 58 1 ≤ nI p := by rw [hS.1.1]; exact nI_le (by omega) (by omega)
      refine rX8_childrenOf_5 h (fun z => absurd hle z) (fun z => absurd hle z) (fun _ => ?_) (fun z => absurd hle z) (fun z => absurd hle z) (fun z => absurd hle z) (fun z => absurd hle z)
      rw [show p = Z.n by omega]
      exact J_iret h dX8_childrenOf_54 rfl ⟨rfl, rfl⟩
    | succ w ih =>
      intro p hp
      have hle : ¬ mu 58 1 ≤ nI p := by rw [hS.1.1]; exact nI_ge (by omega) (by omega)
      have hcp : (nI p).toNatClampNeg = p := nI_clamp (by omega)
      have vp : vp_in (nI p) 24 := vp_in_nI (by omega) (by omega)
      have hpp := hS.2.2.1 p (by omega)
      have hi := ih (p + 1) (by omega)
      have e82 : nI a = mu 82 (nI p).toNatClampNeg ↔ Z.par 1 p = some a := by rw [hcp, hpp.1]; exact par_eq hn24 (fun y q => (hZ.pn q).2) ha
      have e85 : nI a = mu 85 (nI p).toNatClampNeg ↔ Z.par 2 p = some a := by rw [hcp, hpp.2]; exact par_eq hn24 (fun y q => (hZ.pn q).2) ha
      rw [fb_ct_succ] at hi
      have no : ¬ Z.par v p = some a → J l G X (jRi G X (fun r mu' => r = nI (fb_ct (kid Z v a) Z.n) ∧ mu' = mu)) 5 5 [.ref 58, .int (nI a), .int x, .int (nI (fb_ct (kid Z v a) p) + 0), .int (nI p + 1)] [] mu 0 := by
        intro q
        rw [if_neg (fun z => q (kid_iff.mp z))] at hi
        rw [nI_1, Int32.add_zero]
        exact hi
      have yes : Z.par v p = some a → J l G X (jRi G X (fun r mu' => r = nI (fb_ct (kid Z v a) Z.n) ∧ mu' = mu)) 5 5 [.ref 58, .int (nI a), .int x, .int (nI (fb_ct (kid Z v a) p) + 1), .int (nI p + 1)] [] mu 0 := by
        intro q
        rw [if_pos (kid_iff.mpr q)] at hi
        rw [nI_1, nI_1]
        exact hi
      rcases hv with ⟨rfl, rfl⟩ | ⟨rfl, rfl⟩
      · refine rX8_childrenOf_5 h (fun _ _ => vp) (fun _ z => absurd rfl z) (fun z => absurd z hle) (fun _ _ q => ?_) (fun _ _ q => ?_) (fun _ z => absurd rfl z) (fun _ z => absurd rfl z)
        · exact no (fun z => q (e82.mpr z))
        · exact yes (e82.mp q)
      · refine rX8_childrenOf_5 h (fun _ z => absurd z (by decide)) (fun _ _ => vp) (fun z => absurd z hle) (fun _ z => absurd z (by decide)) (fun _ z => absurd z (by decide)) (fun _ _ q => ?_) (fun _ _ q => ?_)
        · exact no (fun z => q (e85.mpr z))
        · exact yes (e85.mp q)
  exact loop Z.n 0 (by omega)
/-- the port's link is chosen -/
theorem StR.port {Z : NT} (hZ : ZOk Z.n Z.lk Z.par Z.grp Z.ch) {mu : jM} (hS : StR Z mu) {a p b : Nat} (hb : (nbl Z.lk a)[p]? = some b) : ∃ (lp : Nat) (e : Nat × Nat), (pll Z.lk a)[p]? = some lp ∧ Z.lk[lp]? = some e ∧ lp < 60 ∧ (if e.1 = a then e.2 else e.1) = b ∧ mu 87 lp = if Z.ch a b then 1 else 0 := by
  obtain ⟨lp, e, hlp, he, hmt, -, -, -⟩ := port_nb hZ.1 hb
  obtain ⟨e', he', hll, -, hother⟩ := port_link hZ.1 hlp
  rw [he] at he'
  have := Option.some.inj he'
  subst this
  rw [hb] at hother
  have hother := Option.some.inj hother
  have h60 := hZ.1.2.1
  refine ⟨lp, e, hlp, he, by omega, hother.symm, ?_⟩
  rw [hS.2.2.2 lp e he]
  have hsy : ∀ x y, Z.ch x y = Z.ch y x := fun x y => by
    cases h1 : Z.ch x y with
    | true => rw [(hZ.2.2.2.2.1 x y h1).2.2]
    | false =>
      cases h2 : Z.ch y x with
      | false => rfl
      | true => rw [(hZ.2.2.2.2.1 y x h2).2.2] at h1; cases h1
  rcases mt_iff.mp hmt with ⟨q1, q2⟩ | ⟨q1, q2⟩
  · rw [q1, q2]
  · rw [q1, q2, hsy]
theorem ch_cnt {Z : NT} (hZ : ZOk Z.n Z.lk Z.par Z.grp Z.ch) (a : Nat) : ((nbl Z.lk a).filter (Z.ch a)).length = fb_ct (Z.ch a) Z.n := by
  rw [← nd_cnt (n := Z.n) (List.Pairwise.filter _ (hZ.1.2.2.2 a)) (fun b hb => (hZ.1.nb (List.mem_filter.mp hb).1).2.1)]
  refine fb_ct_cong (fun b hb => ?_)
  cases hc : Z.ch a b with
  | false => simp [hc]
  | true => simp [hc, (hZ.2.2.2.2.1 a b hc).1]
theorem k_chosenOf (hl : l.stackTraces = false) (hG : jGok G) {Z : NT} (hZ : ZOk Z.n Z.lk Z.par Z.grp Z.ch) (hS : StR Z mu) {a : Nat} (ha : a < Z.n) :
    jCi l G yX8_chosenOf cX8_chosenOf 4 1 (some .int) [.ref 58, .int (nI a)] mu (fun r mu' => r = nI (fb_ct (Z.ch a) Z.n) ∧ mu' = mu) := by
  refine jCi.of (pad := 2) hl hG (by decide) (Nat.le_of_ble_eq_true rfl) (fun X h => ?_)
  show J l G X _ 4 0 [.ref 58, .int (nI a), .float 0, .float 0] [] mu 0
  have hn24 := hZ.1.1
  have h24 := nbl24 hZ.1 a
  have hca : (nI a).toNatClampNeg = a := nI_clamp (by omega)
  have va : vp_in (nI a) 24 := vp_in_nI (by omega) (by omega)
  have hnpl : (nbl Z.lk a).length = (pll Z.lk a).length := by rw [nbl_eq hZ.1, List.length_map]
  refine rX8_chosenOf_0 h ?_
  have loop : ∀ (w p c : Nat), p + w = (nbl Z.lk a).length → c + (((nbl Z.lk a).drop p).filter (Z.ch a)).length = fb_ct (Z.ch a) Z.n → J l G X (jRi G X (fun r mu' => r = nI (fb_ct (Z.ch a) Z.n) ∧ mu' = mu)) 4 4 [.ref 58, .int (nI a), .int (nI c), .int (nI p)] [] mu 0 := by
    intro w
    induction w with
    | zero =>
      intro p c hp hc
      have hle : mu 61 (nI a).toNatClampNeg ≤ nI p := by rw [hca, (hS.1.2.2.2 a (by omega)).1, ← hnpl]; exact nI_le (by omega) (by omega)
      refine rX8_chosenOf_4 h va (fun z => absurd hle z) (fun z => absurd hle z) (fun _ => ?_) (fun z => absurd hle z) (fun z => absurd hle z)
      rw [List.drop_eq_nil_of_le (by omega)] at hc
      rw [← hc]
      exact J_iret h dX8_chosenOf_48 rfl ⟨rfl, rfl⟩
    | succ w ih =>
      intro p c hp hc
      have hle : ¬ mu 61 (nI a).toNatClampNeg ≤ nI p := by rw [hca, (hS.1.2.2.2 a (by omega)).1, ← hnpl]; exact nI_ge (by omega) (by omega)
      obtain ⟨b, hb⟩ : ∃ b, (nbl Z.lk a)[p]? = some b := ⟨_, List.getElem?_eq_getElem (by omega : p < (nbl Z.lk a).length)⟩
      obtain ⟨lp, e, hlp, he, h60, hot, h87⟩ := hS.port hZ hb
      have hdr : (nbl Z.lk a).drop p = b :: (nbl Z.lk a).drop (p + 1) := by
        rw [List.drop_eq_getElem_cons (by omega : p < (nbl Z.lk a).length)]
        congr 1
        exact (List.getElem?_eq_some_iff.mp hb).2
      have c1 : 24 * nI a + nI p = nI (24 * a + p) := by rw [nL24, nI_mul, nI_add]
      have k1 : (nI (24 * a + p)).toNatClampNeg = 24 * a + p := nI_clamp (by omega)
      have e62 : mu 62 (24 * nI a + nI p).toNatClampNeg = nI lp := by rw [c1, k1]; exact (hS.1.2.2.2 a (by omega)).2 p lp hlp
      refine rX8_chosenOf_4 h va (fun _ => by rw [c1]; exact vp_in_nI (by omega) (by omega)) (fun _ => by rw [e62]; exact vp_in_nI h60 (by omega)) (fun z => absurd z hle) (fun _ q => ?_) (fun _ q => ?_)
      all_goals rw [e62, nI_clamp (by omega), h87] at q
      · have hch : Z.ch a b = false := by
          cases hz : Z.ch a b with
          | false => rfl
          | true => rw [hz] at q; exact absurd q (by decide)
        rw [Int32.add_zero, nI_1]
        rw [hdr, List.filter_cons_of_neg (by rw [hch]; decide)] at hc
        exact ih (p + 1) c (by omega) hc
      · have hch : Z.ch a b = true := by
          cases hz : Z.ch a b with
          | true => rfl
          | false => rw [hz] at q; exact absurd rfl q
        rw [nI_1, nI_1]
        rw [hdr, List.filter_cons_of_pos hch, List.length_cons] at hc
        exact ih (p + 1) (c + 1) (by omega) (by omega)
  exact loop _ 0 0 (Nat.zero_add _) (by rw [List.drop_zero, ch_cnt hZ]; omega)
theorem k_maySay (hl : l.stackTraces = false) (hG : jGok G) {Z : NT} (hZ : ZOk Z.n Z.lk Z.par Z.grp Z.ch) {s : RS} (hI : Inv Z s) (hR : RepR Z s mu) {a : Nat} (ha : a < 24) : jCi l G yX8_maySay cX8_maySay 2 1 (some .boolean) [.ref 58, .int (nI a)] mu (fun v mu' => tf v (mayS s a = true) ∧ mu' = mu) := by
  refine jCi.of (pad := 0) hl hG (by decide) (Nat.le_of_ble_eq_true rfl) (fun X h => ?_)
  show J l G X _ 2 0 [.ref 58, .int (nI a)] [] mu 0
  obtain ⟨b1, b2, b3⟩ := hI.bd hZ
  have hb := b3 a
  have hca : (nI a).toNatClampNeg = a := nI_clamp (by omega)
  have va : vp_in (nI a) 24 := vp_in_nI ha (by omega)
  have e77 : (mu 77 (nI a).toNatClampNeg = 0) ↔ s.op a = 0 := by rw [hca, (hR.1 a ha).2, nL0, nI_eq (by omega) (by omega)]
  have e75 : (mu 58 19 ≤ mu 75 (nI a).toNatClampNeg) ↔ s.st ≤ s.rd a := by rw [hca, (hR.1 a ha).1, hR.2.2.2.2.2.1.1, nI_leI (by omega) (by omega)]
  have e78 : (mu 78 (nI a).toNatClampNeg = 0) ↔ s.sd a = false := by
    rw [hca, (hR.2.2.1 a ha).1]
    cases s.sd a <;> simp
  refine rX8_maySay_0 h va (fun _ => va) (fun _ _ => va) (fun q => ?_) (fun q1 q2 => ?_) (fun q1 q2 q3 => ?_) (fun q1 q2 q3 => ?_)
  · refine rX8_maySay_35 h (J_iret h dX8_maySay_36 rfl ⟨tf.zero (fun z => ?_), rfl⟩)
    exact q (e77.mpr (mayS_iff.mp z).2.1)
  · refine rX8_maySay_35 h (J_iret h dX8_maySay_36 rfl ⟨tf.zero (fun z => ?_), rfl⟩)
    have := (mayS_iff.mp z).2.2
    have := e75.mp q2
    omega
  · refine rX8_maySay_35 h (J_iret h dX8_maySay_36 rfl ⟨tf.zero (fun z => ?_), rfl⟩)
    exact q3 (e78.mpr (mayS_iff.mp z).1)
  · refine J_iret h dX8_maySay_36 rfl ⟨tf.one (mayS_iff.mpr ⟨e78.mp q3, e77.mp q1, ?_⟩), rfl⟩
    rcases Nat.lt_or_ge (s.rd a) s.st with z | z
    · exact z
    · exact absurd (e75.mpr z) q2
end C64
