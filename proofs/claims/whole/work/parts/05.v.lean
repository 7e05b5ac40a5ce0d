-- fields, arrays
def ROf (c : Nat) : String := match c with
  | 0 => RX0 | 1 => RX1 | 2 => RX2 | 3 => RX3 | 4 => RX4 | 5 => RX5 | 6 => RX6 | 7 => RX7 | 8 => RX8 | 9 => RX9 | 10 => RX10 | 11 => RX11 | _ => RX12
def TOf (c : Nat) : u_T := match c with
  | 0 => TX0 | 1 => TX1 | 2 => TX2 | 3 => TX3 | 4 => TX4 | 5 => TX5 | 6 => TX6 | 7 => TX7 | 8 => TX8 | 9 => TX9 | 10 => TX10 | 11 => TX11 | _ => TX12
/-- a class of ours, as the tables have it -/
def ClOk (c N : Nat) : Prop := c < 13 ∧ vwCl[c]? = some (ROf c, TOf c, N) ∧ (∀ w ∈ u_ws (ROf c) (TOf c) N, w ∈ BIG) ∧ (∀ k, k < N → parseFieldDescriptor (TOf c k).2.2.1 = some (tyOf c k)) ∧ (∀ a, a < N → ∀ b, b < N → a ≠ b → (TOf c a).2.1 ≠ (TOf c b).2.1)
def FLk (own : String) (idx c N j : Nat) : Prop := ClOk c N ∧ j < N ∧ Cond.fieldLink own idx (TOf c j).1 (TOf c j).2.1 (TOf c j).2.2.1 ∈ BIG
theorem kd_lt {X : CX} {k : Nat} {c n : Nat} (h : kd X k = (c, n)) (hc : c < 90) : k < 91 := by
  rcases Nat.lt_or_ge k 91 with q | q
  · exact q
  · have : kd X k = (99, 0) := by
      rw [kd_ne (by omega)]
      unfold kd0
      rw [List.getD_eq_getElem?_getD, List.getElem?_eq_none (by exact q)]
      rfl
    rw [this] at h
    cases h
    omega
theorem ad_own {X : CX} {k : Nat} (h : k < 91) : ad X k = X.2.1 + k := by
  unfold ad
  rw [if_pos (by omega)]
theorem entA_obj {X : CX} {h : AH} {k c n : Nat} (hc : c < 13) : entA X h k c n = .inr (c, (List.range n).map (fun j => fv X (tyOf c j) h k j)) := by
  rcases (by omega : c = 0 ∨ c = 1 ∨ c = 2 ∨ c = 3 ∨ c = 4 ∨ c = 5 ∨ c = 6 ∨ c = 7 ∨ c = 8 ∨ c = 9 ∨ c = 10 ∨ c = 11 ∨ c = 12) with e | e | e | e | e | e | e | e | e | e | e | e | e <;> (subst e; rfl)
theorem ent_obj {X : CX} {h : AH} {k c n : Nat} (hk : kd X k = (c, n)) (hc : c < 13) : ent X h k = .inr (c, (List.range n).map (fun j => fv X (tyOf c j) h k j)) := by
  unfold ent
  rw [hk]
  exact entA_obj hc
theorem entA_congr {X : CX} {h h' : AH} {k c n : Nat} (e1 : h'.1 k = h.1 k) (e2 : h'.2.1 k = h.2.1 k) (e3 : h'.2.2 k = h.2.2 k) : entA X h' k c n = entA X h k c n := by
  have hf : ∀ ty j, fv X ty h' k j = fv X ty h k j := fun ty j => by
    cases ty <;> simp [fv, e1, e2, e3]
  unfold entA
  split <;> simp [e1, e2, e3, hf]
def setI (h : AH) (k j : Nat) (x : Int32) : AH := (fun a i => if a = k ∧ i = j then x else h.1 a i, h.2)
def setL (h : AH) (k j : Nat) (x : Int64) : AH := (h.1, fun a i => if a = k ∧ i = j then x else h.2.1 a i, h.2.2)
def setR (h : AH) (k j : Nat) (x : Option Nat) : AH := (h.1, h.2.1, fun a i => if a = k ∧ i = j then x else h.2.2 a i)
/-- a row of ints anew -/
def setA (h : AH) (k : Nat) (f : Nat → Int32) : AH := (fun a => if a = k then f else h.1 a, h.2)
theorem setI_ne {X : CX} {h : AH} {k j : Nat} {x : Int32} : ∀ a, a ≠ k → ent X (setI h k j x) a = ent X h a := fun a ha => entA_congr (funext fun i => if_neg (fun z => ha z.1)) rfl rfl
theorem setL_ne {X : CX} {h : AH} {k j : Nat} {x : Int64} : ∀ a, a ≠ k → ent X (setL h k j x) a = ent X h a := fun a ha => entA_congr rfl (funext fun i => if_neg (fun z => ha z.1)) rfl
theorem setR_ne {X : CX} {h : AH} {k j : Nat} {x : Option Nat} : ∀ a, a ≠ k → ent X (setR h k j x) a = ent X h a := fun a ha => entA_congr rfl rfl (funext fun i => if_neg (fun z => ha z.1))
theorem setA_ne {X : CX} {h : AH} {k : Nat} {f : Nat → Int32} : ∀ a, a ≠ k → ent X (setA h k f) a = ent X h a := fun a ha => entA_congr (if_neg ha) rfl rfl
/-- the kind of a field's type: 0 int and its like, 1 long, 2 a reference -/
def tcd (ty : FieldType) : Nat := match ty with
  | .long => 1
  | .object _ => 2
  | .array _ => 2
  | _ => 0
theorem fv_int {X : CX} {ty : FieldType} {h : AH} {k j : Nat} (ht : tcd ty = 0) : fv X ty h k j = .int (h.1 k j) := by cases ty <;> first | rfl | cases ht
theorem fv_long {X : CX} {ty : FieldType} {h : AH} {k j : Nat} (ht : tcd ty = 1) : fv X ty h k j = .long (h.2.1 k j) := by cases ty <;> first | rfl | cases ht
theorem fv_ref {X : CX} {ty : FieldType} {h : AH} {k j : Nat} (ht : tcd ty = 2) : fv X ty h k j = va_rf ((h.2.2 k j).map (ad X)) := by cases ty <;> first | rfl | cases ht
section VF
variable {X : CX} {mt : MT} {R : Room} {Z : ZX} {A : AX} {pc : Nat} {L : List (Option Value)} {st : List Value} {h : AH} {k c N j idx : Nat}
theorem fv_get {ty : Nat → FieldType} (hj : j < N) : ((List.range N).map (fun j => fv X (ty j) h k j))[j]? = some (fv X (ty j) h k j) := by
  rw [List.getElem?_map, List.getElem?_range hj]
  rfl
theorem v_get {v : Value} {w : Value} (hv : fv X (tyOf c j) h k j = tr X v) (hd : decode mt.2.1 pc = .ok (.getfield idx, 3)) (hf : FLk mt.1.cls idx c N j) (hk : kd X k = (c, N)) (hA : k < A.1) (q : V X mt R Z A (pc + 3) L (v :: st) h) : V X mt R Z A pc L (.ref k :: st) h := by
  intro p e s m args below meth c0 H locs ls hF hH hz hl
  have hc13 := hf.1.1
  have h91 := kd_lt hk (by omega)
  show W _ _ _ _ _ _ _ _ _ _ _ _ _ _ _ (F0 m pc ls (.ref (ad X k) :: st.map (tr X)))
  rw [ad_own h91]
  exact va_get hF.1 hF.2.1 hF.2.2.2.2.2.2.2.1 hf.1.2.2.1 hF.2.2.2.2.2.1 hF.2.2.2.2.2.2.2.2.1 hH.1 k ((wsL_at hA).trans (by rw [ent_obj hk hc13])) hf.1.2.1 j hf.2.1 (hF.2.2.2.2.2.2.2.1 _ hf.2.2) (fun _ z => z) ((fv_get hf.2.1).trans (by rw [hv])) hd (q p e s m args below meth c0 H locs ls hF hH hz hl)
theorem v_getI (hd : decode mt.2.1 pc = .ok (.getfield idx, 3)) (hf : FLk mt.1.cls idx c N j) (hk : kd X k = (c, N)) (hA : k < A.1) (ht : tcd (tyOf c j) = 0) (q : V X mt R Z A (pc + 3) L (.int (h.1 k j) :: st) h) : V X mt R Z A pc L (.ref k :: st) h :=
  v_get (v := .int (h.1 k j)) (w := .null) (fv_int ht) hd hf hk hA q
theorem v_getL (hd : decode mt.2.1 pc = .ok (.getfield idx, 3)) (hf : FLk mt.1.cls idx c N j) (hk : kd X k = (c, N)) (hA : k < A.1) (ht : tcd (tyOf c j) = 1) (q : V X mt R Z A (pc + 3) L (.long (h.2.1 k j) :: st) h) : V X mt R Z A pc L (.ref k :: st) h :=
  v_get (v := .long (h.2.1 k j)) (w := .null) (fv_long ht) hd hf hk hA q
theorem v_getR {r : Nat} (hd : decode mt.2.1 pc = .ok (.getfield idx, 3)) (hf : FLk mt.1.cls idx c N j) (hk : kd X k = (c, N)) (hA : k < A.1) (ht : tcd (tyOf c j) = 2) (hr : h.2.2 k j = some r) (q : V X mt R Z A (pc + 3) L (.ref r :: st) h) : V X mt R Z A pc L (.ref k :: st) h :=
  v_get (v := .ref r) (w := .null) ((fv_ref ht).trans (by rw [hr]; rfl)) hd hf hk hA q
theorem fs_set {ty : Nat → FieldType} {h' : AH} (hj : j < N) {v : Value} (hv : fv X (ty j) h' k j = v) (ho : ∀ i, i ≠ j → fv X (ty i) h' k i = fv X (ty i) h k i) : ((List.range N).map (fun i => fv X (ty i) h k i)).set j v = (List.range N).map (fun i => fv X (ty i) h' k i) := by
  apply List.ext_getElem?
  intro i
  by_cases hi : i < N
  · by_cases e : i = j
    · subst e
      rw [List.getElem?_set_self (by simpa using hi), fv_get hi, hv]
    · rw [List.getElem?_set_ne (Ne.symm e), fv_get hi, fv_get hi, ho i e]
  · rw [List.getElem?_eq_none (by simpa using hi), List.getElem?_eq_none (by simpa using hi)]
theorem P_set {H H' : Heap} {nx : Nat} {h' : AH} (hP : va_P X.2.2.1 vwCl (wsL X h nx) H) (hk : va_at X.2.2.1 vwCl (X.2.1 + k, ent X h' k) H') (hne : ∀ a, a ≠ k → ent X h' a = ent X h a) (oq : ∀ q, q ≠ X.2.1 + k → H'[q]? = H[q]?) : va_P X.2.2.1 vwCl (wsL X h' nx) H' := by
  intro i q hq
  have li : i < nx := by simpa [wsL] using (List.getElem?_eq_some_iff.mp hq).1
  rw [wsL_at li] at hq
  cases hq
  by_cases e : i = k
  · subst e
    exact hk
  · rw [hne i e]
    exact va_at.kept (hP i _ (wsL_at li)) (oq _ (by show X.2.1 + i ≠ _; omega))
theorem v_put {v : Value} {h' : AH} (hv : fv X (tyOf c j) h' k j = tr X v) (ho : ∀ i, i ≠ j → ∀ ty, fv X ty h' k i = fv X ty h k i) (hne : ∀ a, a ≠ k → ent X h' a = ent X h a) (hn : narrow (tyOf c j) (tr X v) = tr X v) (hfit : fits (tyOf c j) (tr X v) = true) (hd : decode mt.2.1 pc = .ok (.putfield idx, 3)) (hf : FLk mt.1.cls idx c N j) (hfin : (TOf c j).2.2.2 = false ∨ ((TOf c j).2.2.2 = true ∧ mt.1.name = "<init>" ∧ (TOf c j).1 = mt.1.cls)) (hk : kd X k = (c, N)) (hA : k < A.1)
    (q : V X mt R Z A (pc + 3) L st h') : V X mt R Z A pc L (v :: .ref k :: st) h := by
  intro p e s m args below meth c0 H locs ls hF hH hz hl
  have hF' := hF
  obtain ⟨hx, hb, -, -, -, hown, hnm, hts, hK, -⟩ := hF'
  obtain ⟨⟨hc13, hcl, hin, hty, hnms⟩, hj, hlk⟩ := hf
  have h91 := kd_lt hk (by omega)
  have hent : ∀ g : AH, ent X g k = .inr (c, (List.range N).map (fun i => fv X (tyOf c i) g k i)) := fun g => ent_obj hk hc13
  show W _ _ _ _ _ _ _ _ _ _ _ _ _ _ _ (F0 m pc ls (tr X v :: .ref (ad X k) :: st.map (tr X)))
  rw [ad_own h91]
  have hap := va_apart (own := mt.1.cls) hts hin (tyOf c) hty hnms hK hcl
  have hP0 := hH.1 k _ (wsL_at hA)
  rw [hent h] at hP0
  obtain ⟨r, h1, cell, q1, q2, q3, q4⟩ := hP0
  have hr : r = (ROf c, TOf c, N) := Option.some.inj (h1.symm.trans hcl)
  subst hr
  obtain ⟨hS, hfc, kC, hkC, hkind⟩ := hK.1 c _ hcl
  obtain ⟨cf, kf, fi, f, hi, hsl⟩ := hS j hj
  have hst := (u_facts hfc hkC (u_lays hts hin hj) hi).1
  have fin : ∀ H' : Heap, H'[X.2.1 + k]? = some (cell.setSlot f.slot (tr X v)) → H'.size = H.size → (∀ q, q ≠ X.2.1 + k → H'[q]? = H[q]?) → W p X.1 e R s m args below meth c0 H' (locs ++ [⟨X.2.1 + k, f.slot⟩]) A.2.2.1 A.2.2.2 (Z args below s) (F0 m (pc + 3) ls (st.map (tr X))) := by
    intro H' e1 e2 e3
    refine q p e s m args below meth c0 H' _ ls hF ⟨P_set hH.1 ?_ hne e3, hH.2.put e2 e3 (Nat.le_add_right _ _)⟩ (e2.trans hz) hl
    rw [hent h']
    rw [hsl] at e1
    refine ⟨_, hcl, t_OB.to (V := updV (vp_V ((List.range N).map (fun i => fv X (tyOf c i) h k i))) j (tr X v)) ⟨_, e1, q2, q3, t_set q4 hap hj (tr X v)⟩ (fun i hi => ?_)⟩
    rw [← fs_set (h := h) hj hv (fun i hi => ho i hi _)]
    exact vp_updV_set (by simpa using hj) (tr X v) i
  have hlay := hts _ (hin _ (u_in_lay hj))
  unfold u_lay at hlay
  rcases hfin with hfin | ⟨hfin, hini, hdecl⟩
  · rw [if_neg (by rw [hfin]; decide)] at hlay
    have h6 := u_store hfc hkC hkind hlay hi (hty j hj) hn hfit
    exact W.putK hx hb (f := f) ⟨hown, hts _ hlk, ⟨_, _, _, hi⟩, hst⟩ (by rw [q2]; exact h6) q1 q3 (by rw [hsl]; exact k2_hasslot (q4 j hj)) rfl rfl hd fin
  · rw [if_pos hfin] at hlay
    have hcf : m.cls = cf := by
      obtain ⟨_, _, c', _, _, _, -, -, hf', -, -, -, hown2, -⟩ := Cond.laysFinal_spec hlay
      have e1 : c' = cf := by have := hi.symm.trans hf'; simp at this; exact this.1.symm
      rw [hdecl] at hown2
      rw [← e1]; exact Option.some.inj (hown.symm.trans hown2)
    have h6 := u_fits hfc hkC hkind (Or.inr hlay) hi (hty j hj) hn hfit
    exact W.putFinK hx hb hown (hts _ hlk) hi hst hcf (by rw [hnm, hini]) (by rw [q2]; exact h6) q1 q3 (by rw [hsl]; exact k2_hasslot (q4 j hj)) rfl rfl hd fin
/-- a place in a constructor may be final; behind it not -/
def PutOk (mt : MT) (c j : Nat) : Prop := (TOf c j).2.2.2 = false ∨ ((TOf c j).2.2.2 = true ∧ mt.1.name = "<init>" ∧ (TOf c j).1 = mt.1.cls)
theorem v_putI {x : Int32} (ht : tcd (tyOf c j) = 0) (hn : narrow (tyOf c j) (.int x) = .int x) (hfit : fits (tyOf c j) (.int x) = true) (hd : decode mt.2.1 pc = .ok (.putfield idx, 3)) (hf : FLk mt.1.cls idx c N j) (hfin : PutOk mt c j) (hk : kd X k = (c, N)) (hA : k < A.1) (q : V X mt R Z A (pc + 3) L st (setI h k j x)) : V X mt R Z A pc L (.int x :: .ref k :: st) h := by
  refine v_put (h' := setI h k j x) ?_ ?_ setI_ne hn hfit hd hf hfin hk hA q
  · rw [fv_int ht]
    show Value.int (if k = k ∧ j = j then x else _) = _
    rw [if_pos ⟨rfl, rfl⟩]
    rfl
  · intro i hi ty
    cases ty <;> simp [fv, setI, hi]
theorem v_putL {x : Int64} (ht : tyOf c j = .long) (hd : decode mt.2.1 pc = .ok (.putfield idx, 3)) (hf : FLk mt.1.cls idx c N j) (hfin : PutOk mt c j) (hk : kd X k = (c, N)) (hA : k < A.1) (q : V X mt R Z A (pc + 3) L st (setL h k j x)) : V X mt R Z A pc L (.long x :: .ref k :: st) h := by
  refine v_put (h' := setL h k j x) ?_ ?_ setL_ne (by rw [ht]; rfl) (by rw [ht]; rfl) hd hf hfin hk hA q
  · rw [fv_long (by rw [ht]; rfl)]
    show Value.long (if k = k ∧ j = j then x else _) = _
    rw [if_pos ⟨rfl, rfl⟩]
    rfl
  · intro i hi ty
    cases ty <;> simp [fv, setL, hi]
theorem v_putR {x : Nat} (ht : tcd (tyOf c j) = 2) (hd : decode mt.2.1 pc = .ok (.putfield idx, 3)) (hf : FLk mt.1.cls idx c N j) (hfin : PutOk mt c j) (hk : kd X k = (c, N)) (hA : k < A.1) (q : V X mt R Z A (pc + 3) L st (setR h k j (some x))) : V X mt R Z A pc L (.ref x :: .ref k :: st) h := by
  refine v_put (h' := setR h k j (some x)) ?_ ?_ setR_ne ?_ ?_ hd hf hfin hk hA q
  · rw [fv_ref ht]
    show va_rf ((if k = k ∧ j = j then some x else _).map (ad X)) = _
    rw [if_pos ⟨rfl, rfl⟩]
    rfl
  · intro i hi ty
    cases ty <;> simp [fv, setR, hi]
  · revert ht
    cases tyOf c j <;> intro ht <;> first | rfl | cases ht
  · revert ht
    cases tyOf c j <;> intro ht <;> first | rfl | cases ht
-- arrays
theorem arr_cls {s : State} {p : Program} {m : MethodId} {args : Array Value} {meth : Method} {c0 : Code} (hF : Fr X mt p s m args meth c0) {i : Nat} {q : ClassId × FieldType} (hi : (tysOf X)[i]? = some q) : ArrOfT s q.1 q.2 := (hF.2.2.2.2.2.2.2.2.1.2 i q hi).1
variable {r n : Nat} {i : Int32}
theorem in_lt (hin : vp_in i n) : i.toNatClampNeg < n := Nat.not_le.mp fun q => hin (Or.inr q)
theorem v_iald (hd : decode mt.2.1 pc = .ok (.iaload, 1)) (hk : kd X r = (20, n)) (hA : r < A.1) (hin : vp_in i n) (q : V X mt R Z A (pc + 1) L (.int (h.1 r i.toNatClampNeg) :: st) h) : V X mt R Z A pc L (.int i :: .ref r :: st) h := by
  intro p e s m args below meth c0 H locs ls hF hH hz hl
  show W _ _ _ _ _ _ _ _ _ _ _ _ _ _ _ (F0 m pc ls (.int i :: .ref (ad X r) :: st.map (tr X)))
  rw [ad_own (kd_lt hk (by omega))]
  exact va_iald hF.1 hF.2.1 hF.2.2.2.2.2.2.2.2.1 hH.1 r 0 ((wsL_at hA).trans (by unfold ent; rw [hk]; rfl)) rfl hin hd (q p e s m args below meth c0 H locs ls hF hH hz hl)
theorem v_bald (hd : decode mt.2.1 pc = .ok (.baload, 1)) (hk : kd X r = (21, n)) (hA : r < A.1) (hin : vp_in i n) (q : V X mt R Z A (pc + 1) L (.int (h.1 r i.toNatClampNeg) :: st) h) : V X mt R Z A pc L (.int i :: .ref r :: st) h := by
  intro p e s m args below meth c0 H locs ls hF hH hz hl
  show W _ _ _ _ _ _ _ _ _ _ _ _ _ _ _ (F0 m pc ls (.int i :: .ref (ad X r) :: st.map (tr X)))
  rw [ad_own (kd_lt hk (by omega))]
  exact va_bald hF.1 hF.2.1 hF.2.2.2.2.2.2.2.2.1 hH.1 r 1 ((wsL_at hA).trans (by unfold ent; rw [hk]; rfl)) rfl hin hd (q p e s m args below meth c0 H locs ls hF hH hz hl)
theorem v_zald (hd : decode mt.2.1 pc = .ok (.baload, 1)) (hk : kd X r = (22, n)) (hA : r < A.1) (hin : vp_in i n) (q : V X mt R Z A (pc + 1) L (.int (h.1 r i.toNatClampNeg) :: st) h) : V X mt R Z A pc L (.int i :: .ref r :: st) h := by
  intro p e s m args below meth c0 H locs ls hF hH hz hl
  show W _ _ _ _ _ _ _ _ _ _ _ _ _ _ _ (F0 m pc ls (.int i :: .ref (ad X r) :: st.map (tr X)))
  rw [ad_own (kd_lt hk (by omega))]
  exact va_zald hF.1 hF.2.1 hF.2.2.2.2.2.2.2.2.1 hH.1 r 2 ((wsL_at hA).trans (by unfold ent; rw [hk]; rfl)) rfl hin hd (q p e s m args below meth c0 H locs ls hF hH hz hl)
theorem v_lald (hd : decode mt.2.1 pc = .ok (.laload, 1)) (hk : kd X r = (23, n)) (hA : r < A.1) (hin : vp_in i n) (q : V X mt R Z A (pc + 1) L (.long (h.2.1 r i.toNatClampNeg) :: st) h) : V X mt R Z A pc L (.int i :: .ref r :: st) h := by
  intro p e s m args below meth c0 H locs ls hF hH hz hl
  show W _ _ _ _ _ _ _ _ _ _ _ _ _ _ _ (F0 m pc ls (.int i :: .ref (ad X r) :: st.map (tr X)))
  rw [ad_own (kd_lt hk (by omega))]
  exact va_lald hF.1 hF.2.1 hF.2.2.2.2.2.2.2.2.1 hH.1 r 3 ((wsL_at hA).trans (by unfold ent; rw [hk]; rfl)) rfl hin hd (q p e s m args below meth c0 H locs ls hF hH hz hl)
theorem v_aald {r' : Nat} (hd : decode mt.2.1 pc = .ok (.aaload, 1)) (hk : kd X r = (24, n)) (hA : r < A.1) (hin : vp_in i n) (hr : h.2.2 r i.toNatClampNeg = some r') (q : V X mt R Z A (pc + 1) L (.ref r' :: st) h) : V X mt R Z A pc L (.int i :: .ref r :: st) h := by
  intro p e s m args below meth c0 H locs ls hF hH hz hl
  show W _ _ _ _ _ _ _ _ _ _ _ _ _ _ _ (F0 m pc ls (.int i :: .ref (ad X r) :: st.map (tr X)))
  rw [ad_own (kd_lt hk (by omega))]
  have hP0 := hH.1 r _ (wsL_at hA)
  unfold ent at hP0
  rw [hk] at hP0
  exact W.aald (v := .ref (ad X r')) hF.1 hF.2.1 hP0 (arr_cls hF (i := 4) rfl n _) rfl (fun q => by cases q) (by show ¬ (i < 0 ∨ (arrV _ _ _).slots.size ≤ _); rw [arrV_size]; exact hin) (by show (arrV _ _ _).slots[_]? = _; rw [arrV_read _ _ (in_lt hin)]; simp only [hr]; rfl) rfl rfl hd (q p e s m args below meth c0 H locs ls hF hH hz hl)
theorem v_alen {cA : Nat} {v : Int32} (hd : decode mt.2.1 pc = .ok (.arraylength, 1)) (hk : kd X r = (cA, n)) (hc : 20 ≤ cA ∧ cA ≤ 24) (hA : r < A.1) (hv : Int32.ofNat n = v) (q : V X mt R Z A (pc + 1) L (.int v :: st) h) : V X mt R Z A pc L (.ref r :: st) h := by
  intro p e s m args below meth c0 H locs ls hF hH hz hl
  show W _ _ _ _ _ _ _ _ _ _ _ _ _ _ _ (F0 m pc ls (.ref (ad X r) :: st.map (tr X)))
  rw [ad_own (kd_lt hk (by omega))]
  have hq := q p e s m args below meth c0 H locs ls hF hH hz hl
  have hP0 := (wsL_at (X := X) (h := h) hA)
  unfold ent at hP0
  rw [hk] at hP0
  rcases (by omega : cA = 20 ∨ cA = 21 ∨ cA = 22 ∨ cA = 23 ∨ cA = 24) with e0 | e0 | e0 | e0 | e0 <;> subst e0
  · exact va_alen hF.1 hF.2.1 hF.2.2.2.2.2.2.2.2.1 hH.1 r 0 hP0 rfl hv hd hq
  · exact va_alen hF.1 hF.2.1 hF.2.2.2.2.2.2.2.2.1 hH.1 r 1 hP0 rfl hv hd hq
  · exact va_alen hF.1 hF.2.1 hF.2.2.2.2.2.2.2.2.1 hH.1 r 2 hP0 rfl hv hd hq
  · exact va_alen hF.1 hF.2.1 hF.2.2.2.2.2.2.2.2.1 hH.1 r 3 hP0 rfl hv hd hq
  · exact va_alen hF.1 hF.2.1 hF.2.2.2.2.2.2.2.2.1 hH.1 r 4 hP0 rfl hv hd hq
theorem setI_self {k j : Nat} {x : Int32} : (setI h k j x).1 k = fun i => if i = j then x else h.1 k i := by
  funext i
  show (if k = k ∧ i = j then x else h.1 k i) = _
  by_cases e : i = j <;> simp [e]
theorem setL_self {k j : Nat} {x : Int64} : (setL h k j x).2.1 k = fun i => if i = j then x else h.2.1 k i := by
  funext i
  show (if k = k ∧ i = j then x else h.2.1 k i) = _
  by_cases e : i = j <;> simp [e]
theorem v_iast {x : Int32} (hd : decode mt.2.1 pc = .ok (.iastore, 1)) (hk : kd X r = (20, n)) (hA : r < A.1) (hin : vp_in i n) (q : V X mt R Z A (pc + 1) L st (setI h r i.toNatClampNeg x)) : V X mt R Z A pc L (.int x :: .int i :: .ref r :: st) h := by
  intro p e s m args below meth c0 H locs ls hF hH hz hl
  show W _ _ _ _ _ _ _ _ _ _ _ _ _ _ _ (F0 m pc ls (.int x :: .int i :: .ref (ad X r) :: st.map (tr X)))
  rw [ad_own (kd_lt hk (by omega))]
  have hP0 := hH.1 r _ (wsL_at hA)
  unfold ent at hP0
  rw [hk] at hP0
  refine W.iast hF.1 hF.2.1 hP0 (arr_cls hF (i := 0) rfl n _) (fun q => by cases q) (by show ¬ (i < 0 ∨ (arrV _ _ _).slots.size ≤ _); rw [arrV_size]; exact hin) rfl rfl hd fun H1 e1 z oq => ?_
  refine q p e s m args below meth c0 H1 _ ls hF ⟨P_set hH.1 ?_ setI_ne oq, hH.2.put z oq (Nat.le_add_right _ _)⟩ (z.trans hz) hl
  unfold ent
  rw [hk]
  show H1[_]? = some (vp_cell _ (n, .inl ((setI h r i.toNatClampNeg x).1 r)))
  rw [e1]
  show some ((vp_cell _ (n, .inl (h.1 r))).setSlot _ _) = _
  rw [vp_cell_i, vp_cell_i, arrV_store, setI_self]
  congr 2
  funext j
  by_cases hj : j = i.toNatClampNeg <;> simp [updV, hj]
theorem v_bast {x : Int32} (hd : decode mt.2.1 pc = .ok (.bastore, 1)) (hk : kd X r = (21, n)) (hA : r < A.1) (hin : vp_in i n) (hx : narrow .byte (.int x) = .int x) (q : V X mt R Z A (pc + 1) L st (setI h r i.toNatClampNeg x)) : V X mt R Z A pc L (.int x :: .int i :: .ref r :: st) h := by
  intro p e s m args below meth c0 H locs ls hF hH hz hl
  show W _ _ _ _ _ _ _ _ _ _ _ _ _ _ _ (F0 m pc ls (.int x :: .int i :: .ref (ad X r) :: st.map (tr X)))
  rw [ad_own (kd_lt hk (by omega))]
  have hP0 := hH.1 r _ (wsL_at hA)
  unfold ent at hP0
  rw [hk] at hP0
  refine W.bast hF.1 hF.2.1 hP0 (arr_cls hF (i := 1) rfl n _) (fun q => by cases q) (by show ¬ (i < 0 ∨ (arrV _ _ _).slots.size ≤ _); rw [arrV_size]; exact hin) rfl rfl hd fun H1 e1 z oq => ?_
  refine q p e s m args below meth c0 H1 _ ls hF ⟨P_set hH.1 ?_ setI_ne oq, hH.2.put z oq (Nat.le_add_right _ _)⟩ (z.trans hz) hl
  unfold ent
  rw [hk]
  show H1[_]? = some (vp_cell _ (n, .inl ((setI h r i.toNatClampNeg x).1 r)))
  rw [e1, hx]
  show some ((vp_cell _ (n, .inl (h.1 r))).setSlot _ _) = _
  rw [vp_cell_i, vp_cell_i, arrV_store, setI_self]
  congr 2
  funext j
  by_cases hj : j = i.toNatClampNeg <;> simp [updV, hj]
theorem v_zast {x : Int32} (hd : decode mt.2.1 pc = .ok (.bastore, 1)) (hk : kd X r = (22, n)) (hA : r < A.1) (hin : vp_in i n) (hx : narrow .boolean (.int x) = .int x) (q : V X mt R Z A (pc + 1) L st (setI h r i.toNatClampNeg x)) : V X mt R Z A pc L (.int x :: .int i :: .ref r :: st) h := by
  intro p e s m args below meth c0 H locs ls hF hH hz hl
  show W _ _ _ _ _ _ _ _ _ _ _ _ _ _ _ (F0 m pc ls (.int x :: .int i :: .ref (ad X r) :: st.map (tr X)))
  rw [ad_own (kd_lt hk (by omega))]
  have hP0 := hH.1 r _ (wsL_at hA)
  unfold ent at hP0
  rw [hk] at hP0
  refine W.zast hF.1 hF.2.1 hP0 (arr_cls hF (i := 2) rfl n _) (fun q => by cases q) (by show ¬ (i < 0 ∨ (arrV _ _ _).slots.size ≤ _); rw [arrV_size]; exact hin) rfl rfl hd fun H1 e1 z oq => ?_
  refine q p e s m args below meth c0 H1 _ ls hF ⟨P_set hH.1 ?_ setI_ne oq, hH.2.put z oq (Nat.le_add_right _ _)⟩ (z.trans hz) hl
  unfold ent
  rw [hk]
  show H1[_]? = some (vp_cell _ (n, .inl ((setI h r i.toNatClampNeg x).1 r)))
  rw [e1, hx]
  show some ((vp_cell _ (n, .inl (h.1 r))).setSlot _ _) = _
  rw [vp_cell_i, vp_cell_i, arrV_store, setI_self]
  congr 2
  funext j
  by_cases hj : j = i.toNatClampNeg <;> simp [updV, hj]
theorem v_last {x : Int64} (hd : decode mt.2.1 pc = .ok (.lastore, 1)) (hk : kd X r = (23, n)) (hA : r < A.1) (hin : vp_in i n) (q : V X mt R Z A (pc + 1) L st (setL h r i.toNatClampNeg x)) : V X mt R Z A pc L (.long x :: .int i :: .ref r :: st) h := by
  intro p e s m args below meth c0 H locs ls hF hH hz hl
  show W _ _ _ _ _ _ _ _ _ _ _ _ _ _ _ (F0 m pc ls (.long x :: .int i :: .ref (ad X r) :: st.map (tr X)))
  rw [ad_own (kd_lt hk (by omega))]
  have hP0 := hH.1 r _ (wsL_at hA)
  unfold ent at hP0
  rw [hk] at hP0
  refine W.last hF.1 hF.2.1 hP0 (arr_cls hF (i := 3) rfl n _) (fun q => by cases q) (by show ¬ (i < 0 ∨ (arrV _ _ _).slots.size ≤ _); rw [arrV_size]; exact hin) rfl rfl hd fun H1 e1 z oq => ?_
  refine q p e s m args below meth c0 H1 _ ls hF ⟨P_set hH.1 ?_ setL_ne oq, hH.2.put z oq (Nat.le_add_right _ _)⟩ (z.trans hz) hl
  unfold ent
  rw [hk]
  show H1[_]? = some (vp_cell _ (n, .inr (.inl ((setL h r i.toNatClampNeg x).2.1 r))))
  rw [e1]
  show some ((vp_cell _ (n, .inr (.inl (h.2.1 r)))).setSlot _ _) = _
  rw [vp_cell_l, vp_cell_l, arrV_store, setL_self]
  congr 2
  funext j
  by_cases hj : j = i.toNatClampNeg <;> simp [updV, hj]
end VF
