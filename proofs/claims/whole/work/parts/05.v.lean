-- fields, arrays
def ROf (c : Nat) : String := match c with
  | 0 => RX0 | 1 => RX1 | 2 => RX2 | 3 => RX3 | 4 => RX4 | 5 => RX5 | 6 => RX6 | 7 => RX7 | 8 => RX8 | 9 => RX9 | 10 => RX10 | 11 => RX11 | _ => RX12
def TOf (c : Nat) : u_T := match c with
  | 0 => TX0 | 1 => TX1 | 2 => TX2 | 3 => TX3 | 4 => TX4 | 5 => TX5 | 6 => TX6 | 7 => TX7 | 8 => TX8 | 9 => TX9 | 10 => TX10 | 11 => TX11 | _ => TX12
/-- a class of ours, as the tables have it -/
def ClOk (c N : Nat) : Prop := c < 13 ∧ vwCl[c]? = some (ROf c, TOf c, N) ∧ (∀ w ∈ u_ws (ROf c) (TOf c) N, w ∈ BIG) ∧ (∀ k, k < N → parseFieldDescriptor (TOf c k).2.2.1 = some (tyOf c k)) ∧ (∀ a, a < N → ∀ b, b < N → a ≠ b → (TOf c a).2.1 ≠ (TOf c b).2.1)
def FLk (own : String) (idx c N j : Nat) : Prop := ClOk c N ∧ j < N ∧ Cond.fieldLink own idx (TOf c j).1 (TOf c j).2.1 (TOf c j).2.2.1 ∈ BIG
theorem kd_lt {k : Nat} {c n : Nat} (h : kd k = (c, n)) (hc : c < 90) : k < 91 := by
  rcases Nat.lt_or_ge k 91 with q | q
  · exact q
  · have : kd k = (99, 0) := by
      unfold kd
      rw [List.getD_eq_getElem?_getD, List.getElem?_eq_none (by exact q)]
      rfl
    rw [this] at h
    cases h
    omega
theorem ad_own {X : CX} {k : Nat} (h : k < 91) : ad X k = X.2.1 + k := by
  unfold ad
  rw [if_pos (by omega)]
theorem entA_obj {X : CX} {h : AH} {k c n : Nat} (hc : c < 13) : entA X h k c n = .inr (c, (List.range n).map (fun j => fv X (tyOf c j) h k j)) := by
  rcases (by omega : c = 0 ∨ c = 1 ∨ c = 2 ∨ c = 3 ∨ c = 4 ∨ c = 5 ∨ c = 6 ∨ c = 7 ∨ c = 8 ∨ c = 9 ∨ c = 10 ∨ c = 11 ∨ c = 12) with e | e | e | e | e | e | e | e | e | e | e | e | e <;> (subst e; rfl)
theorem ent_obj {X : CX} {h : AH} {k c n : Nat} (hk : kd k = (c, n)) (hc : c < 13) : ent X h k = .inr (c, (List.range n).map (fun j => fv X (tyOf c j) h k j)) := by
  unfold ent
  rw [hk]
  exact entA_obj hc
theorem entA_congr {X : CX} {h h' : AH} {k c n : Nat} (e1 : h'.1 k = h.1 k) (e2 : h'.2.1 k = h.2.1 k) (e3 : h'.2.2 k = h.2.2 k) : entA X h' k c n = entA X h k c n := by
  have hf : ∀ ty j, fv X ty h' k j = fv X ty h k j := fun ty j => by
    cases ty <;> simp [fv, e1, e2, e3]
  unfold entA
  split <;> simp [e1, e2, e3, hf]
def setI (h : AH) (k j : Nat) (x : Int32) : AH := (fun a i => if a = k ∧ i = j then x else h.1 a i, h.2)
def setL (h : AH) (k j : Nat) (x : Int64) : AH := (h.1, fun a i => if a = k ∧ i = j then x else h.2.1 a i, h.2.2)
def setR (h : AH) (k j : Nat) (x : Option Nat) : AH := (h.1, h.2.1, fun a i => if a = k ∧ i = j then x else h.2.2 a i)
/-- a row of ints anew -/
def setA (h : AH) (k : Nat) (f : Nat → Int32) : AH := (fun a => if a = k then f else h.1 a, h.2)
theorem setI_ne {X : CX} {h : AH} {k j : Nat} {x : Int32} : ∀ a, a ≠ k → ent X (setI h k j x) a = ent X h a := fun a ha => entA_congr (funext fun i => if_neg (fun z => ha z.1)) rfl rfl
theorem setL_ne {X : CX} {h : AH} {k j : Nat} {x : Int64} : ∀ a, a ≠ k → ent X (setL h k j x) a = ent X h a := fun a ha => entA_congr rfl (funext fun i => if_neg (fun z => ha z.1)) rfl
theorem setR_ne {X : CX} {h : AH} {k j : Nat} {x : Option Nat} : ∀ a, a ≠ k → ent X (setR h k j x) a = ent X h a := fun a ha => entA_congr rfl rfl (funext fun i => if_neg (fun z => ha z.1))
theorem setA_ne {X : CX} {h : AH} {k : Nat} {f : Nat → Int32} : ∀ a, a ≠ k → ent X (setA h k f) a = ent X h a := fun a ha => entA_congr (if_neg ha) rfl rfl
/-- the kind of a field's type: 0 int and its like, 1 long, 2 a reference -/
def tcd (ty : FieldType) : Nat := match ty with
  | .long => 1
  | .object _ => 2
  | .array _ => 2
  | _ => 0
theorem fv_int {X : CX} {ty : FieldType} {h : AH} {k j : Nat} (ht : tcd ty = 0) : fv X ty h k j = .int (h.1 k j) := by cases ty <;> first | rfl | cases ht
theorem fv_long {X : CX} {ty : FieldType} {h : AH} {k j : Nat} (ht : tcd ty = 1) : fv X ty h k j = .long (h.2.1 k j) := by cases ty <;> first | rfl | cases ht
theorem fv_ref {X : CX} {ty : FieldType} {h : AH} {k j : Nat} (ht : tcd ty = 2) : fv X ty h k j = va_rf ((h.2.2 k j).map (ad X)) := by cases ty <;> first | rfl | cases ht
section VF
variable {X : CX} {mt : MT} {R : Room} {Z : ZX} {A : AX} {pc : Nat} {L : List (Option Value)} {st : List Value} {h : AH} {k c N j idx : Nat}
theorem fv_get {ty : Nat → FieldType} (hj : j < N) : ((List.range N).map (fun j => fv X (ty j) h k j))[j]? = some (fv X (ty j) h k j) := by
  rw [List.getElem?_map, List.getElem?_range hj]
  rfl
theorem v_get {v : Value} {w : Value} (hv : fv X (tyOf c j) h k j = tr X v) (hd : decode mt.2.1 pc = .ok (.getfield idx, 3)) (hf : FLk mt.1.cls idx c N j) (hk : kd k = (c, N)) (hA : k < A.1) (q : V X mt R Z A (pc + 3) L (v :: st) h) : V X mt R Z A pc L (.ref k :: st) h := by
  intro p e s m args below meth c0 H locs ls hF hH hz hl
  have hc13 := hf.1.1
  have h91 := kd_lt hk (by omega)
  show W _ _ _ _ _ _ _ _ _ _ _ _ _ _ _ (F0 m pc ls (.ref (ad X k) :: st.map (tr X)))
  rw [ad_own h91]
  exact va_get hF.1 hF.2.1 hF.2.2.2.2.2.2.2.1 hf.1.2.2.1 hF.2.2.2.2.2.1 hF.2.2.2.2.2.2.2.2.1 hH.1 k ((wsL_at hA).trans (by rw [ent_obj hk hc13])) hf.1.2.1 j hf.2.1 (hF.2.2.2.2.2.2.2.1 _ hf.2.2) (fun _ z => z) ((fv_get hf.2.1).trans (by rw [hv])) hd (q p e s m args below meth c0 H locs ls hF hH hz hl)
theorem v_getI (hd : decode mt.2.1 pc = .ok (.getfield idx, 3)) (hf : FLk mt.1.cls idx c N j) (hk : kd k = (c, N)) (hA : k < A.1) (ht : tcd (tyOf c j) = 0) (q : V X mt R Z A (pc + 3) L (.int (h.1 k j) :: st) h) : V X mt R Z A pc L (.ref k :: st) h :=
  v_get (v := .int (h.1 k j)) (w := .null) (fv_int ht) hd hf hk hA q
theorem v_getL (hd : decode mt.2.1 pc = .ok (.getfield idx, 3)) (hf : FLk mt.1.cls idx c N j) (hk : kd k = (c, N)) (hA : k < A.1) (ht : tcd (tyOf c j) = 1) (q : V X mt R Z A (pc + 3) L (.long (h.2.1 k j) :: st) h) : V X mt R Z A pc L (.ref k :: st) h :=
  v_get (v := .long (h.2.1 k j)) (w := .null) (fv_long ht) hd hf hk hA q
theorem v_getR {r : Nat} (hd : decode mt.2.1 pc = .ok (.getfield idx, 3)) (hf : FLk mt.1.cls idx c N j) (hk : kd k = (c, N)) (hA : k < A.1) (ht : tcd (tyOf c j) = 2) (hr : h.2.2 k j = some r) (q : V X mt R Z A (pc + 3) L (.ref r :: st) h) : V X mt R Z A pc L (.ref k :: st) h :=
  v_get (v := .ref r) (w := .null) ((fv_ref ht).trans (by rw [hr]; rfl)) hd hf hk hA q
theorem fs_set {ty : Nat → FieldType} {h' : AH} (hj : j < N) {v : Value} (hv : fv X (ty j) h' k j = v) (ho : ∀ i, i ≠ j → fv X (ty i) h' k i = fv X (ty i) h k i) : ((List.range N).map (fun i => fv X (ty i) h k i)).set j v = (List.range N).map (fun i => fv X (ty i) h' k i) := by
  apply List.ext_getElem?
  intro i
  by_cases hi : i < N
  · by_cases e : i = j
    · subst e
      rw [List.getElem?_set_self (by simpa using hi), fv_get hi, hv]
    · rw [List.getElem?_set_ne (Ne.symm e), fv_get hi, fv_get hi, ho i e]
  · rw [List.getElem?_eq_none (by simpa using hi), List.getElem?_eq_none (by simpa using hi)]
theorem v_put {v : Value} {h' : AH} (hv : fv X (tyOf c j) h' k j = tr X v) (ho : ∀ i, i ≠ j → ∀ ty, fv X ty h' k i = fv X ty h k i) (hne : ∀ a, a ≠ k → ent X h' a = ent X h a) (hn : narrow (tyOf c j) (tr X v) = tr X v) (hfit : fits (tyOf c j) (tr X v) = true) (hd : decode mt.2.1 pc = .ok (.putfield idx, 3)) (hf : FLk mt.1.cls idx c N j) (hfin : (TOf c j).2.2.2 = false ∨ ((TOf c j).2.2.2 = true ∧ mt.1.name = "<init>" ∧ (TOf c j).1 = mt.1.cls)) (hk : kd k = (c, N)) (hA : k < A.1)
    (q : V X mt R Z A (pc + 3) L st h') : V X mt R Z A pc L (v :: .ref k :: st) h := by
  intro p e s m args below meth c0 H locs ls hF hH hz hl
  have hc13 := hf.1.1
  have h91 := kd_lt hk (by omega)
  show W _ _ _ _ _ _ _ _ _ _ _ _ _ _ _ (F0 m pc ls (tr X v :: .ref (ad X k) :: st.map (tr X)))
  rw [ad_own h91]
  have hset : (wsL X h A.1).set k (X.2.1 + k, .inr (c, ((List.range N).map (fun i => fv X (tyOf c i) h k i)).set j (tr X v))) = wsL X h' A.1 := by
    refine wsL_set ?_ hne
    rw [ent_obj hk hc13, fs_set hf.2.1 hv (fun i hi => ho i hi _)]
  have hnx : ∀ (H1 : Heap), va_P X.2.2.1 vwCl (wsL X h' A.1) H1 → H1.size = A.2.1 → ∀ locs1, va_S (Own X) s.heap H1 locs1 → W p X.1 e R s m args below meth c0 H1 locs1 A.2.2.1 A.2.2.2 (Z args below s) (F0 m (pc + 3) ls (st.map (tr X))) :=
    fun H1 hP z1 locs1 hS => q p e s m args below meth c0 H1 locs1 ls hF ⟨hP, hS⟩ z1 hl
  have hsz : ∀ (H1 : Heap) (locs1 : List Loc), va_P X.2.2.1 vwCl ((wsL X h A.1).set k (X.2.1 + k, .inr (c, ((List.range N).map (fun i => fv X (tyOf c i) h k i)).set j (tr X v)))) H1 → True := fun _ _ _ => trivial
  sorry
end VF
