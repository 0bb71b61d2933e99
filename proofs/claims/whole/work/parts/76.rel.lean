/-! ===== what the class and the reference have in common, between two steps of the script ===== -/
def GA (n : Nat) (lk : Lk) (pr : List Wd) (run : Bool) (p : Nat) (s : RS) : Prop := NetOk n lk ∧ pr.length ≤ 64 ∧ (run = true → conn lk n ∧ RunA (mkZ n lk pr p) s)
def GC (n : Nat) (lk : Lk) (pr : List Wd) (run : Bool) (p : Nat) (s : RS) (inp pl : Nat → Int32) (mu : jM) : Prop :=
  NetC n lk mu ∧ ProgC pr mu ∧ RunC run mu ∧ (∀ j, j < 192 → mu 13 j = inp j ∧ mu 15 j = pl j) ∧ (run = true → StC (mkZ n lk pr p) mu ∧ PcC n lk p mu ∧ RepC s mu)
def GM (n : Nat) (lk : Lk) (pr : List Wd) (run : Bool) (p : Nat) (s : RS) (inp pl : Nat → Int32) (mu : jM) : Prop :=
  NetR n lk mu ∧ ProgR pr mu ∧ RunR run mu ∧ (∀ j, j < 192 → mu 63 j = inp j ∧ mu 64 j = pl j) ∧ (run = true → StR (mkZ n lk pr p) mu ∧ PcR n lk p mu ∧ RepR (mkZ n lk pr p) s mu)
def GR (mu : jM) : Prop := ∃ n lk pr run p s inp pl, GA n lk pr run p s ∧ GC n lk pr run p s inp pl mu ∧ GM n lk pr run p s inp pl mu
theorem StC.lo {Z : NT} {mu mu' : jM} (h : StC Z mu) (hn : ∀ c, c < 58 → mu' c = mu c) : StC Z mu' := by
  refine ⟨h.1.congr (fun c h1 h2 => hn c (by omega)), h.2.1.congr (fun c h1 h2 => hn c (by omega)), fun x hx => ?_⟩
  rw [hn 34 (by omega), hn 36 (by omega), hn 39 (by omega), hn 41 (by omega), hn 43 (by omega)]
  exact h.2.2 x hx
theorem RepC.lo {s : RS} {mu mu' : jM} (h : RepC s mu) (hn : ∀ c, 19 ≤ c → c < 58 → mu' c = mu c) : RepC s mu' := by
  obtain ⟨h1, h2, h3, h4, h5, h6, h7⟩ := h
  refine ⟨h1.congr (hn 45 (by omega) (by omega)) (hn 46 (by omega) (by omega)), h2.congr (hn 21 (by omega) (by omega)) (hn 22 (by omega) (by omega)) (hn 23 (by omega) (by omega)), h3.congr (hn 19 (by omega) (by omega)), h4.congr (fun c q1 q2 => hn c (by omega) (by omega)), h5.congr (by rw [hn 25 (by omega) (by omega)]) (fun c q1 q2 => hn c (by omega) (by omega)), ?_, h7.congr (by rw [hn 19 (by omega) (by omega)]) (hn 56 (by omega) (by omega)) (hn 57 (by omega) (by omega))⟩
  rw [hn 19 (by omega) (by omega)]
  exact h6
theorem RepR.hi {Z : NT} {s : RS} {mu mu' : jM} (h : RepR Z s mu) (hn : ∀ c, 71 ≤ c → c < 91 → mu' c = mu c) (hf : ∀ f, f = 19 ∨ f = 20 ∨ f = 38 ∨ f = 41 → mu' 58 f = mu 58 f) : RepR Z s mu' := by
  obtain ⟨h1, h2, h3, h4, h5, h6, h7⟩ := h
  refine ⟨h1.congr (hn 75 (by omega) (by omega)) (hn 77 (by omega) (by omega)), h2.congr (hn 76 (by omega) (by omega)) (hn 71 (by omega) (by omega)) (hn 72 (by omega) (by omega)), h3.congr (hn 78 (by omega) (by omega)) (hn 79 (by omega) (by omega)) (hn 80 (by omega) (by omega)), h4.congr (hn 81 (by omega) (by omega)), h5.congr (hf 38 (by omega)) (hn 89 (by omega) (by omega)) (hn 90 (by omega) (by omega)), ?_, h7.congr (hf 20 (by omega)) (hn 73 (by omega) (by omega)) (hn 74 (by omega) (by omega))⟩
  rw [hf 19 (by omega), hf 41 (by omega)]
  exact h6
section C76
variable {n : Nat} {lk : Lk} {pr : List Wd} {run : Bool} {p : Nat} {s : RS} {inp pl : Nat → Int32} {mu mu' : jM}
theorem GC.lo (h : GC n lk pr run p s inp pl mu) (hn : ∀ c, c < 58 → mu' c = mu c) : GC n lk pr run p s inp pl mu' := by
  obtain ⟨h1, h2, h3, h4, h5⟩ := h
  refine ⟨h1.congr (fun c q1 q2 => hn c (by omega)), h2.congr (fun c q1 q2 => hn c (by omega)), ?_, fun j hj => ?_, fun q => ⟨(h5 q).1.lo hn, (h5 q).2.1.congr (fun c hc => hn c (by omega)), (h5 q).2.2.lo (fun c _ q2 => hn c q2)⟩⟩
  · unfold RunC
    rw [hn 0 (by omega)]
    exact h3
  · rw [hn 13 (by omega), hn 15 (by omega)]
    exact h4 j hj
theorem GM.hi (h : GM n lk pr run p s inp pl mu) (hn : ∀ c, 58 < c → c < 93 → mu' c = mu c) (hf : ∀ f, f ≠ 0 → mu' 58 f = mu 58 f) : GM n lk pr run p s inp pl mu' := by
  obtain ⟨h1, h2, h3, h4, h5⟩ := h
  refine ⟨h1.congr (hf 1 (by omega)) (hf 2 (by omega)) (fun c q1 q2 => hn c (by omega) (by omega)), h2.congr (hf 9 (by omega)) (hn 65 (by omega) (by omega)), ?_, fun j hj => ?_, fun q => ⟨(h5 q).1.congr (fun f hf' => hf f (by omega)) (fun c hc => hn c (by omega) (by omega)), (h5 q).2.1.congr (fun c hc => hn c (by omega) (by omega)) (hf 32 (by omega)), (h5 q).2.2.hi (fun c q1 q2 => hn c (by omega) (by omega)) (fun f hf' => hf f (by omega))⟩⟩
  · unfold RunR
    rw [hf 18 (by omega)]
    exact h3
  · rw [hn 63 (by omega) (by omega), hn 64 (by omega) (by omega)]
    exact h4 j hj
/-- a step that changes nothing but what was thrown and the law's own cell -/
theorem GR.keep (hA : GA n lk pr run p s) (hC : GC n lk pr run p s inp pl mu) (hM : GM n lk pr run p s inp pl mu) (hc : ∀ c, c ≠ 58 → c ≠ 93 → mu' c = mu c) (hf : ∀ f, f ≠ 0 → mu' 58 f = mu 58 f) : GR mu' :=
  ⟨n, lk, pr, run, p, s, inp, pl, hA, hC.lo (fun c q => hc c (by omega) (by omega)), hM.hi (fun c q1 q2 => hc c (by omega) (by omega)) hf⟩
theorem GR.stay {m1 : jM} (hA : GA n lk pr run p s) (hC : GC n lk pr run p s inp pl mu) (hM : GM n lk pr run p s inp pl mu) (h1 : ∀ c, c ≠ 93 → m1 c = mu c) (hs : SmR [] [0] m1 mu') : GR mu' :=
  GR.keep hA hC hM (fun c q1 q2 => by rw [hs.1 c List.not_mem_nil q1]; exact h1 c q2) (fun f q => by rw [hs.2 f (by simp [q]), h1 58 (by omega)])
/-- the reference's side, over a step of the class -/
theorem GM.past (h : GM n lk pr run p s inp pl mu) {W : List Nat} (hs : Same W mu mu') (hw : W.all (fun c => decide (c < 58 ∨ c = 93)) = true) : GM n lk pr run p s inp pl mu' := by
  have hn : ∀ c, 58 ≤ c → c < 93 → mu' c = mu c := fun c q1 q2 => hs c (fun q => by
    have := List.all_eq_true.mp hw c q
    simp only [decide_eq_true_eq] at this
    omega)
  exact h.hi (fun c q1 q2 => hn c (by omega) q2) (fun f _ => by rw [hn 58 (by omega) (by omega)])
/-- the class's side, over a step of the reference -/
theorem GC.past (h : GC n lk pr run p s inp pl mu) {W F : List Nat} (hs : SmR W F mu mu') (hw : W.all (fun c => decide (58 ≤ c)) = true) : GC n lk pr run p s inp pl mu' :=
  h.lo (fun c hc => hs.1 c (fun q => by
    have := List.all_eq_true.mp hw c q
    simp only [decide_eq_true_eq] at this
    omega) (by omega))
theorem GC.out (h : GC n lk pr run p s inp pl mu) (v : Int32) : GC n lk pr run p s inp pl (wr mu 93 0 v) := h.lo (fun c hc => rd_ne _ _ _ (by omega))
theorem GM.out (h : GM n lk pr run p s inp pl mu) (v : Int32) : GM n lk pr run p s inp pl (wr mu 93 0 v) := h.hi (fun c q1 q2 => rd_ne _ _ _ (by omega)) (fun f _ => by rw [rd_ne _ _ _ (by decide)])
theorem same_out {W : List Nat} (h : Same W mu mu') (v : Int32) : Same (93 :: W) mu (wr mu' 93 0 v) := fun c hc => by
  have h93 : c ≠ 93 := fun q => hc (by rw [q]; exact List.mem_cons_self)
  rw [rd_ne mu' 0 v h93]
  exact h c (fun q => hc (List.mem_cons_of_mem _ q))
theorem out_at (mu : jM) (v : Int32) : wr mu 93 0 v 93 0 = v := by rw [rd_at]; simp [upd]
theorem out_past {W F : List Nat} (h : SmR W F mu mu') (hw : 93 ∉ W) : mu' 93 = mu 93 := h.1 93 hw (by decide)
end C76
theorem nI_inj2 {a b : Nat} (h : nI a = nI b) (ha : a < 2 ^ 31) (hb : b < 2 ^ 31) : a = b := by
  have := congrArg Int32.toNatClampNeg h
  rwa [nI_clamp ha, nI_clamp hb] at this
theorem lg_self (x : Int64) : lg_cmp x x = 0 := by
  unfold lg_cmp
  simp
theorem nz_cd {cd : Nat} (h : cd ≤ 4) (h0 : nI cd = 0) : cd = 0 := nI_inj2 (b := 0) h0 (by omega) (by decide)
theorem netok_nil {n : Nat} (h : n ≤ 24) : NetOk n [] := ⟨h, Nat.zero_le _, fun e he => absurd he List.not_mem_nil, fun a => by simp [nbl]⟩
section C76b
variable {n : Nat} {lk : Lk} {pr : List Wd} {run : Bool} {p : Nat} {s : RS} {inp pl : Nat → Int32} {mu mu' : jM}
theorem RunC.same {W : List Nat} (h : RunC run mu) (hs : Same W mu mu') (hw : 0 ∉ W) : RunC run mu' := by
  unfold RunC
  rw [hs 0 hw]
  exact h
theorem RunR.same {W F : List Nat} (h : RunR run mu) (hs : SmR W F mu mu') (hw : 18 ∉ F) : RunR run mu' := by
  unfold RunR
  rw [hs.2 18 hw]
  exact h
theorem GA.mk0 (h1 : NetOk n lk) (h2 : pr.length ≤ 64) : GA n lk pr false p s := ⟨h1, h2, fun q => absurd q (by decide)⟩
theorem GC.mk0 (h1 : NetC n lk mu) (h2 : ProgC pr mu) (h3 : RunC false mu) (h4 : ∀ j, j < 192 → mu 13 j = inp j ∧ mu 15 j = pl j) : GC n lk pr false p s inp pl mu := ⟨h1, h2, h3, h4, fun q => absurd q (by decide)⟩
theorem GM.mk0 (h1 : NetR n lk mu) (h2 : ProgR pr mu) (h3 : RunR false mu) (h4 : ∀ j, j < 192 → mu 63 j = inp j ∧ mu 64 j = pl j) : GM n lk pr false p s inp pl mu := ⟨h1, h2, h3, h4, fun q => absurd q (by decide)⟩
theorem GC.reg {inp' pl' : Nat → Int32} (h : GC n lk pr run p s inp pl mu) (hn : ∀ c, c < 58 → c < 13 ∨ 18 < c → mu' c = mu c) (h4' : ∀ j, j < 192 → mu' 13 j = inp' j ∧ mu' 15 j = pl' j) : GC n lk pr run p s inp' pl' mu' := by
  obtain ⟨h1, h2, h3, h4, h5⟩ := h
  refine ⟨h1.congr (fun c q1 q2 => hn c (by omega) (by omega)), h2.congr (fun c q1 q2 => hn c (by omega) (by omega)), ?_, h4', fun q => ⟨?_, (h5 q).2.1.congr (fun c hc => hn c (by omega) (by omega)), (h5 q).2.2.lo (fun c q1 q2 => hn c q2 (by omega))⟩⟩
  · unfold RunC
    rw [hn 0 (by omega) (by omega)]
    exact h3
  · have hS := (h5 q).1
    refine ⟨hS.1.congr (fun c h1 h2 => hn c (by omega) (by omega)), hS.2.1.congr (fun c h1 h2 => hn c (by omega) (by omega)), fun x hx => ?_⟩
    rw [hn 34 (by omega) (by omega), hn 36 (by omega) (by omega), hn 39 (by omega) (by omega), hn 41 (by omega) (by omega), hn 43 (by omega) (by omega)]
    exact hS.2.2 x hx
theorem GM.reg {inp' pl' : Nat → Int32} (h : GM n lk pr run p s inp pl mu) (hn : ∀ c, (58 < c ∧ c < 63) ∨ c = 65 ∨ (71 ≤ c ∧ c ≤ 90) → mu' c = mu c) (hf : ∀ f, f ≠ 0 → mu' 58 f = mu 58 f) (h4' : ∀ j, j < 192 → mu' 63 j = inp' j ∧ mu' 64 j = pl' j) : GM n lk pr run p s inp' pl' mu' := by
  obtain ⟨h1, h2, h3, h4, h5⟩ := h
  refine ⟨h1.congr (hf 1 (by omega)) (hf 2 (by omega)) (fun c q1 q2 => hn c (by omega)), h2.congr (hf 9 (by omega)) (hn 65 (by omega)), ?_, h4', fun q => ⟨(h5 q).1.congr (fun f hf' => hf f (by omega)) (fun c hc => hn c (by omega)), (h5 q).2.1.congr (fun c hc => hn c (by omega)) (hf 32 (by omega)), (h5 q).2.2.hi (fun c q1 q2 => hn c (by omega)) (fun f hf' => hf f (by omega))⟩⟩
  unfold RunR
  rw [hf 18 (by omega)]
  exact h3
/-- over a step of the class that changes the run -/
theorem GC.runs {s' : RS} {W : List Nat} (h : GC n lk pr true p s inp pl mu) (hs : Same W mu mu') (hw : W.all (fun c => decide (18 < c ∧ (c < 34 ∨ 44 < c))) = true) (hr : RepC s' mu') : GC n lk pr true p s' inp pl mu' := by
  obtain ⟨h1, h2, h3, h4, h5⟩ := h
  have hn : ∀ c, c ≤ 18 ∨ (34 ≤ c ∧ c ≤ 44) → mu' c = mu c := fun c hc => hs c (fun q => by
    have := List.all_eq_true.mp hw c q
    simp only [decide_eq_true_eq] at this
    omega)
  refine ⟨h1.congr (fun c q1 q2 => hn c (by omega)), h2.congr (fun c q1 q2 => hn c (by omega)), ?_, fun j hj => ?_, fun q => ⟨?_, (h5 q).2.1.congr (fun c hc => hn c (by omega)), hr⟩⟩
  · unfold RunC
    rw [hn 0 (by omega)]
    exact h3
  · rw [hn 13 (by omega), hn 15 (by omega)]
    exact h4 j hj
  · have hS := (h5 q).1
    refine ⟨hS.1.congr (fun c h1 h2 => hn c (by omega)), hS.2.1.congr (fun c h1 h2 => hn c (by omega)), fun x hx => ?_⟩
    rw [hn 34 (by omega), hn 36 (by omega), hn 39 (by omega), hn 41 (by omega), hn 43 (by omega)]
    exact hS.2.2 x hx
theorem GM.runs {s' : RS} {W F : List Nat} (h : GM n lk pr true p s inp pl mu) (hs : SmR W F mu mu') (hw : W.all (fun c => decide (c = 66 ∨ c = 67 ∨ c = 68 ∨ c = 69 ∨ c = 70 ∨ (70 < c ∧ c < 82) ∨ c = 89 ∨ c = 90)) = true) (hwf : F.all (fun f => decide (f ≠ 1 ∧ f ≠ 2 ∧ f ≠ 9 ∧ f ≠ 18 ∧ f ≠ 32)) = true) (hr : RepR (mkZ n lk pr p) s' mu') : GM n lk pr true p s' inp pl mu' := by
  obtain ⟨h1, h2, h3, h4, h5⟩ := h
  have hn : ∀ c, (58 < c ∧ c < 66) ∨ (82 ≤ c ∧ c < 89) → mu' c = mu c := fun c hc => hs.1 c (fun q => by
    have := List.all_eq_true.mp hw c q
    simp only [decide_eq_true_eq] at this
    omega) (by omega)
  have hf : ∀ f, f = 1 ∨ f = 2 ∨ f = 9 ∨ f = 18 ∨ f = 32 → mu' 58 f = mu 58 f := fun f hf => hs.2 f (fun q => by
    have := List.all_eq_true.mp hwf f q
    simp only [decide_eq_true_eq] at this
    omega)
  refine ⟨h1.congr (hf 1 (by omega)) (hf 2 (by omega)) (fun c q1 q2 => hn c (by omega)), h2.congr (hf 9 (by omega)) (hn 65 (by omega)), ?_, fun j hj => ?_, fun q => ⟨(h5 q).1.congr (fun f hf' => hf f (by omega)) (fun c hc => hn c (by omega)), (h5 q).2.1.congr (fun c hc => hn c (by omega)) (hf 32 (by omega)), hr⟩⟩
  · unfold RunR
    rw [hf 18 (by omega)]
    exact h3
  · rw [hn 63 (by omega), hn 64 (by omega)]
    exact h4 j hj
end C76b
theorem arrV_ext {c : ClassId} {N : Nat} {f g : Nat → Value} (h : ∀ j, j < N → f j = g j) : arrV c N f = arrV c N g := by
  have : (fun j : Fin N => f j.val) = fun j : Fin N => g j.val := funext fun j => h j.val j.isLt
  unfold arrV
  rw [this]
/-- a cell's numbers beyond its length may be any -/
theorem J_norm63 {l : Launch} {G : jG} {X : jX} {Q : State → Prop} {nL pc n : Nat} {ls st : List Value} {mu : jM} {f : Nat → Int32} (hf : ∀ j, j < 192 → mu 63 j = f j) (h : J l G X Q nL pc ls st (jPut mu 63 f) n) : J l G X Q nL pc ls st mu n := by
  obtain ⟨⟨p, e, R, s⟩, m, args, below, meth, c⟩ := X
  intro H locs Ls hP hS hL
  refine h H locs Ls ?_ hS hL
  rw [← jW_set (ad := G.1) (cA := G.2.1) (mu := mu) (k := 63) (d := .inr (0, 192, fun _ => none)) rfl]
  intro k q hq
  rw [List.getElem?_set] at hq
  by_cases e : 63 = k
  · subst e
    rw [if_pos rfl] at hq
    have h63 := hP 63 _ (jW_at (ad := G.1) (cA := G.2.1) (mu := mu) (k := 63) (d := .inr (0, 192, fun _ => none)) rfl)
    split at hq
    · cases hq

      have h63 : H[G.1 63]? = some (arrV (G.2.1 0) 192 (fun j => .int (mu 63 j))) := h63
      show H[G.1 63]? = some (arrV (G.2.1 0) 192 (fun j => .int (f j)))
      rw [h63, arrV_ext (fun j hj => by rw [hf j hj])]
    · cases hq
  · rw [if_neg e] at hq
    exact hP k q hq
