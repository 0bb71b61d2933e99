/-! ===== the walk's own words: a fixed shape of cells, a memory of ints, J: the machine at a place of a method ===== -/
def jT : List Cond := lw_tbl.filter goodWord
theorem jT_in {w : Cond} (i : Nat) (h : lw_tbl[i]? = some w) (hg : goodWord w = true) : w ∈ jT := List.mem_filter.mpr ⟨List.mem_of_getElem? h, hg⟩
/-- a method's words: its own code, and all good words of the tables -/
def jWs (y : MethodName) (cc : ByteArray) (mL : Nat) (ret : Option FieldType) : List Cond := .code y cc mL ret :: jT
theorem jT_goodIn : GoodIn jT jT := fun w h => ⟨h, good_of_word (List.mem_filter.mp h).2⟩
theorem jWs_good {y : MethodName} {cc : ByteArray} {mL : Nat} {ret : Option FieldType} (h : Cond.code y cc mL ret ∈ jT) : GoodIn jT (jWs y cc mL ret) := fun w hw => by
  rcases List.mem_cons.mp hw with rfl | hw
  · exact jT_goodIn _ h
  · exact jT_goodIn _ hw
/-- a cell's shape: an object (its number among the classes; a field is a fixed reference or an int), or an array (0 int, 1 boolean, 2 long, 3 of int arrays; its length; its fixed references) -/
abbrev jD : Type := (Nat × List (Option Nat)) ⊕ (Nat × Nat × (Nat → Option Nat))
abbrev jM : Type := Nat → Nat → Int32
def jF (ad : Nat → Nat) (f : Nat → Int32) : Nat → List (Option Nat) → List Value
  | _, [] => []
  | i, some k :: t => .ref (ad k) :: jF ad f (i + 1) t
  | i, none :: t => .int (f i) :: jF ad f (i + 1) t
def jE (ad : Nat → Nat) (cA : Nat → ClassId) (f : Nat → Int32) (d : jD) : va_E := match d with
  | .inl o => .inr (o.1, jF ad f 0 o.2)
  | .inr a => if a.1 = 0 then .inl (cA 0, (a.2.1, .inl f)) else if a.1 = 1 then .inl (cA 1, (a.2.1, .inl f)) else if a.1 = 2 then .inl (cA 2, (a.2.1, .inr (.inl (fun j => (f j).toInt64)))) else .inl (cA 3, (a.2.1, .inr (.inr (.inr (.inr (fun j => (a.2.2 j).map ad))))))
theorem jF_len (ad : Nat → Nat) (f : Nat → Int32) : ∀ (fl : List (Option Nat)) (i : Nat), (jF ad f i fl).length = fl.length
  | [], _ => rfl
  | some _ :: t, i => by simp [jF, jF_len ad f t]
  | none :: t, i => by simp [jF, jF_len ad f t]
theorem jF_ref {ad : Nat → Nat} {f : Nat → Int32} {k : Nat} : ∀ {fl : List (Option Nat)} {i j : Nat}, fl[j]? = some (some k) → (jF ad f i fl)[j]? = some (.ref (ad k))
  | [], i, j, h => by simp at h
  | x :: t, i, 0, h => by
    simp at h
    subst h
    simp [jF]
  | some y :: t, i, j + 1, h => by
    simp only [jF, List.getElem?_cons_succ] at h ⊢
    exact jF_ref h
  | none :: t, i, j + 1, h => by
    simp only [jF, List.getElem?_cons_succ] at h ⊢
    exact jF_ref h
theorem jF_int {ad : Nat → Nat} {f : Nat → Int32} : ∀ {fl : List (Option Nat)} {i j : Nat}, fl[j]? = some none → (jF ad f i fl)[j]? = some (.int (f (i + j)))
  | [], i, j, h => by simp at h
  | x :: t, i, 0, h => by
    simp at h
    subst h
    simp [jF]
  | some y :: t, i, j + 1, h => by
    simp only [jF, List.getElem?_cons_succ] at h ⊢
    rw [jF_int h, show i + 1 + j = i + (j + 1) by omega]
  | none :: t, i, j + 1, h => by
    simp only [jF, List.getElem?_cons_succ] at h ⊢
    rw [jF_int h, show i + 1 + j = i + (j + 1) by omega]
theorem jF_cong {ad : Nat → Nat} {f g : Nat → Int32} : ∀ {fl : List (Option Nat)} {i : Nat}, (∀ j, i ≤ j → f j = g j) → jF ad f i fl = jF ad g i fl
  | [], _, _ => rfl
  | some y :: t, i, h => by simp only [jF]; rw [jF_cong (fun j hj => h j (by omega))]
  | none :: t, i, h => by simp only [jF]; rw [jF_cong (fun j hj => h j (by omega)), h i (Nat.le_refl _)]
theorem jF_set {ad : Nat → Nat} {f : Nat → Int32} {v : Int32} : ∀ {fl : List (Option Nat)} {i j : Nat}, fl[j]? = some none → (jF ad f i fl).set j (.int v) = jF ad (upd f (i + j) v) i fl
  | [], i, j, h => by simp at h
  | x :: t, i, 0, h => by
    simp at h
    subst h
    simp only [jF, List.set_cons_zero, Nat.add_zero]
    rw [show upd f i v i = v by simp [upd]]
    congr 1
    exact jF_cong (fun j hj => by simp [upd]; omega)
  | some y :: t, i, j + 1, h => by
    simp only [List.getElem?_cons_succ] at h
    simp only [jF, List.set_cons_succ]
    rw [jF_set h, show i + 1 + j = i + (j + 1) by omega]
  | none :: t, i, j + 1, h => by
    simp only [List.getElem?_cons_succ] at h
    simp only [jF, List.set_cons_succ]
    rw [jF_set h, show i + 1 + j = i + (j + 1) by omega, show upd f (i + (j + 1)) v i = f i by simp [upd]]
/-- the cells, by the shape -/
def jW (ad : Nat → Nat) (cA : Nat → ClassId) (mu : jM) : va_W := (List.range jShp.length).map (fun k => (ad k, jE ad cA (mu k) (jShp.getD k (.inl (0, [])))))
theorem jW_at {ad : Nat → Nat} {cA : Nat → ClassId} {mu : jM} {k : Nat} {d : jD} (h : jShp[k]? = some d) : (jW ad cA mu)[k]? = some (ad k, jE ad cA (mu k) d) := by
  have hk : k < jShp.length := (List.getElem?_eq_some_iff.mp h).1
  have hd : jShp.getD k (.inl (0, [])) = d := by rw [List.getD_eq_getElem?_getD, h]; rfl
  unfold jW
  rw [List.getElem?_map, List.getElem?_range hk, Option.map_some, hd]
/-- the row of a cell, written anew -/
def jPut (mu : jM) (k : Nat) (f : Nat → Int32) : jM := fun a => if a = k then f else mu a
theorem jW_set {ad : Nat → Nat} {cA : Nat → ClassId} {mu : jM} {k : Nat} {d : jD} {f : Nat → Int32} (h : jShp[k]? = some d) : (jW ad cA mu).set k (ad k, jE ad cA f d) = jW ad cA (jPut mu k f) := by
  have hk : k < jShp.length := (List.getElem?_eq_some_iff.mp h).1
  have hd : jShp.getD k (.inl (0, [])) = d := by rw [List.getD_eq_getElem?_getD, h]; rfl
  apply List.ext_getElem?
  intro j
  rw [List.getElem?_set]
  by_cases e : k = j
  · subst e
    rw [if_pos rfl, jW_at h, if_pos (by simp [jW, hk])]
    simp [jPut]
  · rw [if_neg e]
    unfold jW
    rw [List.getElem?_map, List.getElem?_map]
    cases hr : (List.range jShp.length)[j]? with
    | none => rfl
    | some x =>
      have hx : x = j := by
        have := List.getElem?_eq_some_iff.mp hr
        obtain ⟨hl, he⟩ := this
        rw [List.getElem_range] at he
        exact he.symm
      subst hx
      simp [jPut, show ¬ x = k from fun q => e q.symm]
/-- one int of a cell, written -/
def wr (mu : jM) (k j : Nat) (v : Int32) : jM := jPut mu k (upd (mu k) j v)
/-- a value with its reference as the machine has it -/
def tv (ad : Nat → Nat) (v : Value) : Value := match v with
  | .ref k => .ref (ad k)
  | v => v
theorem tv_cat (ad : Nat → Nat) (v : Value) : (tv ad v).category = v.category := by cases v <;> rfl
/-- a local that is known (a float stands for: nothing is said) -/
def kn (v : Value) : Bool := match v with
  | .float _ => false
  | _ => true
def lvl (ad : Nat → Nat) (ls : List Value) : List (Nat × Value) := (List.range ls.length).filterMap (fun i => (ls[i]?).bind (fun v => if kn v then some (i, tv ad v) else none))
theorem lvl_mem {ad : Nat → Nat} {ls : List Value} {i : Nat} {w : Value} : (i, w) ∈ lvl ad ls ↔ ∃ v, ls[i]? = some v ∧ kn v = true ∧ w = tv ad v := by
  unfold lvl
  rw [List.mem_filterMap]
  constructor
  · rintro ⟨j, hj, h⟩
    cases hv : ls[j]? with
    | none => rw [hv] at h; simp at h
    | some v =>
      rw [hv, Option.bind_some] at h
      by_cases hk : kn v = true
      · rw [if_pos hk] at h
        cases h
        exact ⟨v, hv, hk, rfl⟩
      · rw [if_neg hk] at h
        cases h
  · rintro ⟨v, hv, hk, rfl⟩
    have hi : i < ls.length := (List.getElem?_eq_some_iff.mp hv).1
    exact ⟨i, List.mem_range.mpr hi, by rw [hv, Option.bind_some, if_pos hk]⟩
theorem lvl_get {ad : Nat → Nat} {Ls : Array Slot} {nL i : Nat} {ls : List Value} {v : Value} (h : lv_has Ls nL (lvl ad ls)) (hv : ls[i]? = some v) (hk : kn v = true) : Ls[i]? = some (.val (tv ad v)) := h.2.2 (i, tv ad v) (lvl_mem.mpr ⟨v, hv, hk, rfl⟩)
/-- no long stands just before the place -/
def lcat (ls : List Value) (i : Nat) : Bool := match i with
  | 0 => true
  | j + 1 => match ls[j]? with
    | some v => v.category == 1
    | none => true
theorem lvl_set {ad : Nat → Nat} {Ls : Array Slot} {nL i : Nat} {ls : List Value} {v : Value} (hc : lcat ls i = true)
    (h : lv_has Ls nL ((i, tv ad v) :: (lvl ad ls).filter (fun q => !(q.1 == i) && !(q.1 + 1 == i && q.2.category == 2)))) : lv_has Ls nL (lvl ad (ls.set i v)) := by
  refine ⟨h.1, h.2.1, fun q hq => ?_⟩
  obtain ⟨j, w⟩ := q
  obtain ⟨u, hu, hk, rfl⟩ := lvl_mem.mp hq
  rw [List.getElem?_set] at hu
  by_cases e : i = j
  · subst e
    rw [if_pos rfl] at hu
    split at hu
    · cases hu
      exact h.2.2 (i, tv ad v) List.mem_cons_self
    · cases hu
  · rw [if_neg e] at hu
    refine h.2.2 (j, tv ad u) (List.mem_cons_of_mem _ (List.mem_filter.mpr ⟨lvl_mem.mpr ⟨u, hu, hk, rfl⟩, ?_⟩))
    have e2 : ¬ j = i := fun q => e q.symm
    by_cases e1 : j + 1 = i
    · subst e1
      simp only [lcat, hu] at hc
      have hc1 : u.category = 1 := by simpa using hc
      simp [tv_cat, hc1]
    · simp [e1, e2]
theorem lvl_set2 {ad : Nat → Nat} {Ls : Array Slot} {nL i : Nat} {ls : List Value} {v : Value} (x : UInt32) (hc : lcat ls i = true)
    (h : lv_has Ls nL ((i, tv ad v) :: (lvl ad ls).filter (fun q => !(q.1 == i) && (!(q.1 == i + 1) && !(q.1 + 1 == i && q.2.category == 2))))) : lv_has Ls nL (lvl ad ((ls.set i v).set (i + 1) (.float x))) := by
  refine ⟨h.1, h.2.1, fun q hq => ?_⟩
  obtain ⟨j, w⟩ := q
  obtain ⟨u, hu, hk, rfl⟩ := lvl_mem.mp hq
  rw [List.getElem?_set] at hu
  by_cases e9 : i + 1 = j
  · rw [if_pos e9] at hu
    split at hu
    · cases hu
      cases hk
    · cases hu
  rw [if_neg e9, List.getElem?_set] at hu
  by_cases e : i = j
  · subst e
    rw [if_pos rfl] at hu
    split at hu
    · cases hu
      exact h.2.2 (i, tv ad v) List.mem_cons_self
    · cases hu
  · rw [if_neg e] at hu
    refine h.2.2 (j, tv ad u) (List.mem_cons_of_mem _ (List.mem_filter.mpr ⟨lvl_mem.mpr ⟨u, hu, hk, rfl⟩, ?_⟩))
    have e2 : ¬ j = i := fun q => e q.symm
    have e3 : ¬ j = i + 1 := fun q => e9 q.symm
    by_cases e1 : j + 1 = i
    · subst e1
      simp only [lcat, hu] at hc
      have hc1 : u.category = 1 := by simpa using hc
      simp [tv_cat, hc1]
      omega
    · simp [e1, e2, e3]
/-- the locals at a method's entry: a long takes two places -/
def jEn : List Value → List Value
  | [] => []
  | v :: t => if v.category = 2 then v :: .float 0 :: jEn t else v :: jEn t
theorem jEn_args {ad : Nat → Nat} : ∀ {vs : List Value} {n i k : Nat} {v : Value}, (jEn vs ++ List.replicate n (.float 0))[i]? = some v → kn v = true → (k + i, tv ad v) ∈ lv_args k (vs.map (tv ad))
  | [], n, i, k, v, h, hk => by
    simp only [jEn, List.nil_append] at h
    have := List.mem_of_getElem? h
    rw [List.eq_of_mem_replicate this] at hk
    cases hk
  | u :: t, n, i, k, v, h, hk => by
    simp only [List.map_cons, lv_args, tv_cat]
    by_cases hc : u.category = 2
    · simp only [jEn, if_pos hc] at h ⊢
      match i, h with
      | 0, h =>
        simp at h
        subst h
        simp
      | 1, h =>
        simp at h
        subst h
        cases hk
      | i + 2, h =>
        have h : (jEn t ++ List.replicate n (.float 0))[i]? = some v := by simpa using h
        have h2 := jEn_args (ad := ad) (k := k + 2) h hk
        rw [show k + (i + 2) = k + 2 + i by omega]
        exact List.mem_cons_of_mem _ h2
    · simp only [jEn, if_neg hc] at h ⊢
      match i, h with
      | 0, h =>
        simp at h
        subst h
        simp
      | i + 1, h =>
        have h : (jEn t ++ List.replicate n (.float 0))[i]? = some v := by simpa using h
        have h2 := jEn_args (ad := ad) (k := k + 1) h hk
        rw [show k + (i + 1) = k + 1 + i by omega]
        exact List.mem_cons_of_mem _ h2
theorem jEn_has {ad : Nat → Nat} {Ls : Array Slot} {nL n : Nat} {vs : List Value} (h : lv_has Ls nL (lv_args 0 (vs.map (tv ad)))) : lv_has Ls nL (lvl ad (jEn vs ++ List.replicate n (.float 0))) :=
  ⟨h.1, h.2.1, fun q hq => by
    obtain ⟨i, w⟩ := q
    obtain ⟨v, hv, hk, rfl⟩ := lvl_mem.mp hq
    have := jEn_args (ad := ad) (k := 0) hv hk
    rw [Nat.zero_add] at this
    exact h.2.2 _ this⟩
