/-! V: a judgement over the kit's W that hides the machine: a method's code walked over an abstract heap.
  X: launch, first own address, the classes' and slots' numbers, the array classes, addresses of others' cells (texts, the script)
  a heap h: ints, longs, references by address and place; addresses count from 0 (own cells); 10000 and on: others' cells -/
def BIG : List Cond := lw_tbl.filter goodWord
theorem BIG_in {w : Cond} (h : w ∈ lw_tbl) (g : goodWord w = true) : w ∈ BIG := List.mem_filter.mpr ⟨h, g⟩
theorem BIG_t {w : Cond} (h : w ∈ BIG) : w ∈ lw_tbl := (List.mem_filter.mp h).1
theorem BIG_g {w : Cond} (h : w ∈ BIG) : goodWord w = true := (List.mem_filter.mp h).2
theorem tb1 {w : Cond} (i : Nat) (h : tables_1_1[i]? = some w) (g : goodWord w = true) : w ∈ BIG := BIG_in (List.mem_append_right _ (List.mem_append_left _ (List.mem_of_getElem? h))) g
theorem tb2 {w : Cond} (i : Nat) (h : tables_1_2[i]? = some w) (g : goodWord w = true) : w ∈ BIG := BIG_in (List.mem_append_right _ (List.mem_append_right _ (List.mem_append_left _ (List.mem_of_getElem? h)))) g
theorem tb3 {w : Cond} (i : Nat) (h : tables_1_3[i]? = some w) (g : goodWord w = true) : w ∈ BIG := BIG_in (List.mem_append_right _ (List.mem_append_right _ (List.mem_append_right _ (List.mem_append_left _ (List.mem_of_getElem? h))))) g
theorem tb4 {w : Cond} (i : Nat) (h : tables_1_4[i]? = some w) (g : goodWord w = true) : w ∈ BIG := BIG_in (List.mem_append_right _ (List.mem_append_right _ (List.mem_append_right _ (List.mem_append_right _ (List.mem_append_left _ (List.mem_of_getElem? h)))))) g
theorem tb5 {w : Cond} (i : Nat) (h : tables_1_5[i]? = some w) (g : goodWord w = true) : w ∈ BIG := BIG_in (List.mem_append_right _ (List.mem_append_right _ (List.mem_append_right _ (List.mem_append_right _ (List.mem_append_right _ (List.mem_append_left _ (List.mem_of_getElem? h))))))) g
theorem tb6 {w : Cond} (i : Nat) (h : tables_1_6[i]? = some w) (g : goodWord w = true) : w ∈ BIG := BIG_in (List.mem_append_right _ (List.mem_append_right _ (List.mem_append_right _ (List.mem_append_right _ (List.mem_append_right _ (List.mem_append_right _ (List.mem_append_left _ (List.mem_of_getElem? h)))))))) g
theorem tb7 {w : Cond} (i : Nat) (h : tables_1_7[i]? = some w) (g : goodWord w = true) : w ∈ BIG := BIG_in (List.mem_append_right _ (List.mem_append_right _ (List.mem_append_right _ (List.mem_append_right _ (List.mem_append_right _ (List.mem_append_right _ (List.mem_append_right _ (List.mem_append_left _ (List.mem_of_getElem? h))))))))) g
theorem tb8 {w : Cond} (i : Nat) (h : tables_1_8[i]? = some w) (g : goodWord w = true) : w ∈ BIG := BIG_in (List.mem_append_right _ (List.mem_append_right _ (List.mem_append_right _ (List.mem_append_right _ (List.mem_append_right _ (List.mem_append_right _ (List.mem_append_right _ (List.mem_append_right _ (List.mem_of_getElem? h))))))))) g
theorem tb0 {w : Cond} (i : Nat) (h : (k2_sels lw_privs)[i]? = some w) (g : goodWord w = true) : w ∈ BIG := BIG_in (List.mem_append_left _ (List.mem_of_getElem? h)) g

abbrev CX : Type := Launch × Nat × va_G × (Nat → ClassId) × (Nat → Nat) × (Nat → Nat)
abbrev MT : Type := MethodName × ByteArray × Nat × Option FieldType
abbrev AH : Type := (Nat → Nat → Int32) × (Nat → Nat → Int64) × (Nat → Nat → Option Nat)
/-- an own address, or another's -/
def ad (X : CX) (k : Nat) : Nat := if k < 10000 then X.2.1 + k else if k < 11000 then X.2.2.2.2.1 (k - 10000) else X.2.2.2.2.2 (k - 11000)
def tr (X : CX) (v : Value) : Value := match v with
  | .ref k => .ref (ad X k)
  | v => v
/-- what lies at each own address: the kind (a class by its number; 20 int, 21 byte, 22 boolean, 23 long, 24 int rows), the length -/
def kdl : List (Nat × Nat) := [(11, 15), (3, 5), (20, 20), (20, 20), (20, 20), (3, 5), (20, 20), (20, 20), (20, 20), (3, 5), (20, 20), (20, 20), (20, 20), (5, 7), (23, 20), (20, 20), (20, 20), (23, 40), (20, 40), (20, 40), (1, 1), (9, 2), (20, 20), (10, 2), (20, 200), (4, 3), (20, 20), (7, 5), (20, 200),
  (8, 5), (24, 6), (20, 200), (20, 200), (20, 200), (20, 200), (20, 200), (20, 200), (20, 6), (20, 48), (20, 9),
  (2, 9), (24, 20), (20, 20), (20, 20), (20, 20), (20, 20), (20, 20), (20, 20), (20, 20), (20, 20), (20, 20), (20, 20), (20, 20), (20, 20), (20, 20), (20, 20), (20, 20), (20, 20), (20, 20), (20, 20), (20, 20), (20, 20), (20, 20), (6, 5), (20, 20), (20, 61), (0, 5), (20, 20),
  (12, 47), (21, 200), (21, 1200), (20, 6), (20, 128), (20, 20), (20, 20), (20, 20), (20, 20), (23, 20), (20, 400), (23, 400), (22, 1600), (20, 40), (20, 40), (20, 400), (20, 20), (20, 20), (20, 61), (20, 20), (20, 20), (20, 20), (23, 1)]
def kd0 (k : Nat) : Nat × Nat := kdl.getD k (99, 0)
/-- how many the town has: so long is the row at 22 -/
def nX (X : CX) : Nat := X.2.2.2.2.1 700
def kd (X : CX) (k : Nat) : Nat × Nat := if k = 22 then (20, nX X) else kd0 k
theorem kd_ne {X : CX} {k : Nat} (h : k ≠ 22) : kd X k = kd0 k := if_neg h
def tyOf (c : Nat) : Nat → FieldType := match c with
  | 0 => tyX0 | 1 => tyX1 | 2 => tyX2 | 3 => tyX3 | 4 => tyX4 | 5 => tyX5 | 6 => tyX6 | 7 => tyX7 | 8 => tyX8 | 9 => tyX9 | 10 => tyX10 | 11 => tyX11 | _ => tyX12
def tyAr (c : Nat) : FieldType := match c with
  | 20 => .int | 21 => .byte | 22 => .boolean | 23 => .long | _ => .array .int
/-- a field's or element's value, for real -/
def fv (X : CX) (ty : FieldType) (h : AH) (k j : Nat) : Value := match ty with
  | .long => .long (h.2.1 k j)
  | .object _ => va_rf ((h.2.2 k j).map (ad X))
  | .array _ => va_rf ((h.2.2 k j).map (ad X))
  | _ => .int (h.1 k j)
def entA (X : CX) (h : AH) (k c n : Nat) : va_E := match c with
  | 20 => .inl (X.2.2.2.1 20, n, .inl (h.1 k))
  | 21 => .inl (X.2.2.2.1 21, n, .inl (h.1 k))
  | 22 => .inl (X.2.2.2.1 22, n, .inl (h.1 k))
  | 23 => .inl (X.2.2.2.1 23, n, .inr (.inl (h.2.1 k)))
  | 24 => .inl (X.2.2.2.1 24, n, .inr (.inr (.inr (.inr (fun j => (h.2.2 k j).map (ad X))))))
  | c => .inr (c, (List.range n).map (fun j => fv X (tyOf c j) h k j))
def ent (X : CX) (h : AH) (k : Nat) : va_E := entA X h k (kd X k).1 (kd X k).2
def wsL (X : CX) (h : AH) (nx : Nat) : va_W := (List.range nx).map (fun k => (X.2.1 + k, ent X h k))
theorem wsL_at {X : CX} {h : AH} {nx k : Nat} (hk : k < nx) : (wsL X h nx)[k]? = some (X.2.1 + k, ent X h k) := by
  unfold wsL
  rw [List.getElem?_map, List.getElem?_range hk]
  rfl
theorem wsL_set {X : CX} {h h' : AH} {nx k : Nat} {e : va_E} (he : ent X h' k = e) (ho : ∀ j, j ≠ k → ent X h' j = ent X h j) : (wsL X h nx).set k (X.2.1 + k, e) = wsL X h' nx := by
  apply List.ext_getElem?
  intro i
  by_cases hi : i < nx
  · rw [wsL_at hi]
    by_cases e2 : i = k
    · subst e2
      rw [List.getElem?_set_self (by simpa [wsL] using hi), he]
    · rw [List.getElem?_set_ne (Ne.symm e2), wsL_at hi, ho i e2]
  · rw [List.getElem?_eq_none (by simpa [wsL] using hi), List.getElem?_eq_none (by simpa [wsL] using hi)]
theorem wsL_push {X : CX} {h h' : AH} {nx : Nat} {e : va_E} (he : ent X h' nx = e) (ho : ∀ j, j < nx → ent X h' j = ent X h j) : wsL X h nx ++ [(X.2.1 + nx, e)] = wsL X h' (nx + 1) := by
  unfold wsL
  rw [List.range_succ, List.map_append, List.map_singleton, he]
  congr 1
  apply List.map_congr_left
  intro j hj
  rw [ho j (List.mem_range.mp hj)]
theorem wsL_D {X : CX} {h : AH} {nx : Nat} : va_D (fun q => X.2.1 ≤ q) (wsL X h nx) := by
  refine ⟨fun i j p q hi hj hpq => ?_, fun k q hk => ?_⟩
  · have li : i < nx := by simpa [wsL] using (List.getElem?_eq_some_iff.mp hi).1
    have lj : j < nx := by simpa [wsL] using (List.getElem?_eq_some_iff.mp hj).1
    rw [wsL_at li] at hi
    rw [wsL_at lj] at hj
    cases hi
    cases hj
    simp only at hpq
    omega
  · have lk : k < nx := by simpa [wsL] using (List.getElem?_eq_some_iff.mp hk).1
    rw [wsL_at lk] at hk
    cases hk
    exact Nat.le_add_right _ _
-- locals by places
def lvl : Nat → List (Option Value) → List (Nat × Value)
  | _, [] => []
  | i, none :: t => lvl (i + 1) t
  | i, some v :: t => (i, v) :: lvl (i + 1) t
theorem lvl_in {v : Value} : ∀ (L : List (Option Value)) (i j : Nat), (j, v) ∈ lvl i L ↔ i ≤ j ∧ L[j - i]? = some (some v)
  | [], i, j => by simp [lvl]
  | none :: t, i, j => by
    rw [lvl, lvl_in t (i + 1) j]
    constructor
    · rintro ⟨h1, h2⟩
      refine ⟨by omega, ?_⟩
      rw [show j - i = (j - (i + 1)) + 1 by omega, List.getElem?_cons_succ]
      exact h2
    · rintro ⟨h1, h2⟩
      by_cases e : j = i
      · subst e
        simp at h2
      · refine ⟨by omega, ?_⟩
        rw [show j - i = (j - (i + 1)) + 1 by omega, List.getElem?_cons_succ] at h2
        exact h2
  | some w :: t, i, j => by
    rw [lvl, List.mem_cons, lvl_in t (i + 1) j]
    constructor
    · rintro (h | ⟨h1, h2⟩)
      · cases h
        simp
      · refine ⟨by omega, ?_⟩
        rw [show j - i = (j - (i + 1)) + 1 by omega, List.getElem?_cons_succ]
        exact h2
    · rintro ⟨h1, h2⟩
      by_cases e : j = i
      · subst e
        simp at h2
        left
        rw [h2]
      · right
        refine ⟨by omega, ?_⟩
        rw [show j - i = (j - (i + 1)) + 1 by omega, List.getElem?_cons_succ] at h2
        exact h2
def is2 : Option Value → Bool
  | some (.long _) => true
  | some (.double _) => true
  | _ => false
theorem is2_cat {v : Value} : is2 (some v) = true ↔ v.category = 2 := by cases v <;> simp [is2, Value.category]
/-- storing at i: what stood at i - 1 goes if it was a long -/
def sto : Nat → Value → List (Option Value) → List (Option Value)
  | _, _, [] => []
  | 0, v, _ :: t => some v :: (if v.category = 2 then t.set 0 none else t)
  | 1, v, [o] => (if is2 o then none else o) :: []
  | 1, v, o :: _ :: t => (if is2 o then none else o) :: some v :: (if v.category = 2 then t.set 0 none else t)
  | n + 2, v, o :: t => o :: sto (n + 1) v t
theorem sto_len (v : Value) : ∀ (i : Nat) (L : List (Option Value)), (sto i v L).length = L.length
  | _, [] => by cases ‹Nat› <;> simp [sto]
  | 0, o :: t => by simp only [sto]; split <;> simp
  | 1, [o] => by simp [sto]
  | 1, o :: p :: t => by simp only [sto]; split <;> (split <;> simp)
  | n + 2, o :: t => by simp [sto, sto_len v (n + 1) t]
theorem sto_at {v : Value} : ∀ (i : Nat) (L : List (Option Value)) (j : Nat) (w : Value), (sto i v L)[j]? = some (some w) → (j = i ∧ w = v) ∨ (j ≠ i ∧ L[j]? = some (some w) ∧ ¬ (j + 1 = i ∧ w.category = 2) ∧ ¬ (v.category = 2 ∧ j = i + 1))
  | i, [], j, w => by cases i <;> simp [sto]
  | 0, o :: t, 0, w => by
    intro h
    have h : some (some v) = some (some w) := h
    cases h
    exact Or.inl ⟨rfl, rfl⟩
  | 0, o :: t, j + 1, w => by
    simp only [sto, List.getElem?_cons_succ]
    intro h
    right
    split at h
    next hc =>
      by_cases e : j = 0
      · subst e
        cases t <;> simp at h
      · rw [List.getElem?_set_ne (Ne.symm e)] at h
        exact ⟨by omega, h, by omega, by omega⟩
    next hc => exact ⟨by omega, h, by omega, fun q => hc q.1⟩
  | 1, [o], j, w => by
    simp only [sto]
    intro h
    right
    cases j with
    | zero =>
      simp only [List.getElem?_cons_zero, Option.some.injEq] at h ⊢
      split at h
      next => cases h
      next hc =>
        subst h
        exact ⟨by omega, rfl, fun q => hc (is2_cat.mpr q.2), by omega⟩
    | succ j => simp at h
  | 1, o :: p :: t, 0, w => by
    simp only [sto, List.getElem?_cons_zero, Option.some.injEq]
    intro h
    right
    split at h
    next => cases h
    next hc =>
      subst h
      exact ⟨by omega, rfl, fun q => hc (is2_cat.mpr q.2), by omega⟩
  | 1, o :: p :: t, 1, w => by
    intro h
    have h : some (some v) = some (some w) := h
    cases h
    exact Or.inl ⟨rfl, rfl⟩
  | 1, o :: p :: t, j + 2, w => by
    simp only [sto, List.getElem?_cons_succ]
    intro h
    right
    split at h
    next hc =>
      by_cases e : j = 0
      · subst e
        cases t <;> simp at h
      · rw [List.getElem?_set_ne (Ne.symm e)] at h
        exact ⟨by omega, h, by omega, by omega⟩
    next hc => exact ⟨by omega, h, by omega, fun q => hc q.1⟩
  | n + 2, o :: t, 0, w => by
    simp only [sto, List.getElem?_cons_zero]
    intro h
    exact Or.inr ⟨by omega, h, by omega, by omega⟩
  | n + 2, o :: t, j + 1, w => by
    simp only [sto, List.getElem?_cons_succ]
    intro h
    rcases sto_at (n + 1) t j w h with ⟨a, b⟩ | ⟨a, b, c, d⟩
    · exact Or.inl ⟨by omega, b⟩
    · exact Or.inr ⟨by omega, b, fun q => c ⟨by omega, q.2⟩, fun q => d ⟨q.1, by omega⟩⟩
def lvR (X : CX) (ls : Array Slot) (n : Nat) (L : List (Option Value)) : Prop := lv_has ls n (lvl 0 (L.map (Option.map (tr X))))
theorem lvR_at {X : CX} {ls : Array Slot} {n : Nat} {L : List (Option Value)} (h : lvR X ls n L) {i : Nat} {v : Value} (hi : L[i]? = some (some v)) : ls[i]? = some (.val (tr X v)) := by
  refine h.2.2 (i, tr X v) ((lvl_in _ 0 i).mpr ⟨Nat.zero_le _, ?_⟩)
  rw [Nat.sub_zero, List.getElem?_map, hi]
  rfl
theorem tr_cat {X : CX} {v : Value} : (tr X v).category = v.category := by cases v <;> rfl
/-- fewer locals are known -/
theorem lvR_weak {X : CX} {ls : Array Slot} {n : Nat} {L L' : List (Option Value)} (h : lvR X ls n L) (hw : ∀ (i : Nat) (v : Value), L'[i]? = some (some v) → L[i]? = some (some v)) : lvR X ls n L' := by
  refine ⟨h.1, h.2.1, fun q hq => ?_⟩
  obtain ⟨j, w⟩ := q
  obtain ⟨-, h2⟩ := (lvl_in _ 0 j).mp hq
  rw [Nat.sub_zero, List.getElem?_map] at h2
  cases hL : L'[j]? with
  | none => rw [hL] at h2; cases h2
  | some o =>
    cases o with
    | none => rw [hL] at h2; cases h2
    | some v =>
      rw [hL] at h2
      cases h2
      exact lvR_at h (hw j v hL)
theorem lvR_sto {X : CX} {ls : Array Slot} {n : Nat} {L : List (Option Value)} {i : Nat} {v : Value} {l1 : List (Nat × Value)} (h1 : lv_has ls n l1) (hl1 : ∀ (j : Nat) (w : Value), (j = i ∧ w = tr X v) ∨ (j ≠ i ∧ (j, w) ∈ lvl 0 (L.map (Option.map (tr X))) ∧ ¬ (j + 1 = i ∧ w.category = 2) ∧ ¬ (v.category = 2 ∧ j = i + 1)) → (j, w) ∈ l1) : lvR X ls n (sto i v L) := by
  refine ⟨h1.1, h1.2.1, fun q hq => ?_⟩
  obtain ⟨j, w⟩ := q
  obtain ⟨-, h2⟩ := (lvl_in _ 0 j).mp hq
  rw [Nat.sub_zero, List.getElem?_map] at h2
  cases hL : (sto i v L)[j]? with
  | none => rw [hL] at h2; cases h2
  | some o =>
    cases o with
    | none => rw [hL] at h2; cases h2
    | some u =>
      rw [hL] at h2
      have e2 : tr X u = w := by simpa using h2
      refine h1.2.2 (j, w) (hl1 j w ?_)
      rcases sto_at i L j u hL with ⟨a, b⟩ | ⟨a, b, c, d⟩
      · exact Or.inl ⟨a, by rw [← e2, b]⟩
      · refine Or.inr ⟨a, (lvl_in _ 0 j).mpr ⟨Nat.zero_le _, ?_⟩, fun q => c ⟨q.1, ?_⟩, d⟩
        · rw [Nat.sub_zero, List.getElem?_map, b, ← e2]
          rfl
        · rw [← tr_cat (X := X), e2]
          exact q.2
