-- texts, what is made
theorem vr_outer (c : ClassId) (N h0 : Nat) : ∀ i : Nat, Jvm.Free.Multi.outerC c N h0 i = arrV c N (fun j => va_rf (if j < i then some (h0 + 1 + j) else none))
  | 0 => by
    show ({ cls := c, slots := Array.replicate N .null, vm := .none } : Cell) = _
    rw [arrV_new]
    refine congrArg (arrV c N) (funext fun j => ?_)
    simp [va_rf]
  | i + 1 => by
    show (Jvm.Free.Multi.outerC c N h0 i).setSlot i (.ref (h0 + 1 + i)) = _
    rw [vr_outer c N h0 i, arrV_store]
    refine congrArg (arrV c N) (funext fun j => ?_)
    by_cases e : j = i
    · subst e
      simp [updV, va_rf]
    · by_cases h : j < i
      · simp [updV, e, h, Nat.lt_succ_of_lt h]
      · simp [updV, e, h, show ¬ j < i + 1 by omega]
section VT
variable {X : CX} {mt : MT} {R : Room} {Z : ZX} {A : AX} {pc : Nat} {L : List (Option Value)} {st : List Value} {h : AH} {idx i : Nat}
theorem ad_k {k : Nat} (hk : k < 1000) : ad X (10000 + k) = X.2.2.2.2.1 k := by
  unfold ad
  rw [if_neg (by omega), if_pos (by omega), Nat.add_sub_cancel_left]
theorem ad_v {k : Nat} : ad X (11000 + k) = X.2.2.2.2.2 k := by
  unfold ad
  rw [if_neg (by omega), if_neg (by omega), Nat.add_sub_cancel_left]
theorem v_sval (hd : decode mt.2.1 pc = .ok (.getfield idx, 3)) (hlk : Cond.fieldLink mt.1.cls idx "java/lang/String" "value" "[B" ∈ BIG) (hi : i < 3) (q : V X mt R Z A (pc + 3) L (.ref (11000 + i) :: st) h) : V X mt R Z A pc L (.ref (10000 + i) :: st) h := by
  intro p e s m args below meth c0 H locs ls hF hH hz hl
  have hF' := hF
  obtain ⟨hx, hb, -, -, hml, hown, -, hts, hK, hSV, hSH, -⟩ := hF'
  show W _ _ _ _ _ _ _ _ _ _ _ _ _ _ _ (F0 m pc ls (.ref (ad X (10000 + i)) :: st.map (tr X)))
  rw [ad_k (by omega)]
  refine vk_getf hx hb (hSH.1.1 i hi).2.2.1 hH.2 hown (hts _ hlk) (fun _ z => z) hd ?_
  have q' := q p e s m args below meth c0 H locs ls hF hH hz hl
  have q' : W p X.1 e R s m args below meth c0 H locs A.2.2.1 A.2.2.2 (Z args below s) (F0 m (pc + 3) ls (.ref (ad X (11000 + i)) :: st.map (tr X))) := q'
  rw [ad_v] at q'
  exact q'
theorem v_scod (hd : decode mt.2.1 pc = .ok (.getfield idx, 3)) (hlk : Cond.fieldLink mt.1.cls idx "java/lang/String" "coder" "B" ∈ BIG) (hi : i < 3) (q : V X mt R Z A (pc + 3) L (.int 0 :: st) h) : V X mt R Z A pc L (.ref (10000 + i) :: st) h := by
  intro p e s m args below meth c0 H locs ls hF hH hz hl
  have hF' := hF
  obtain ⟨hx, hb, -, -, hml, hown, -, hts, hK, hSV, hSH, -⟩ := hF'
  show W _ _ _ _ _ _ _ _ _ _ _ _ _ _ _ (F0 m pc ls (.ref (ad X (10000 + i)) :: st.map (tr X)))
  rw [ad_k (by omega)]
  exact vk_getf hx hb (hSH.1.1 i hi).2.1 hH.2 hown (hts _ hlk) (fun _ z => z) hd (q p e s m args below meth c0 H locs ls hF hH hz hl)
theorem v_gcs (hd : decode mt.2.1 pc = .ok (.getstatic idx, 3)) (hlk : Cond.fieldLink mt.1.cls idx "java/lang/String" "COMPACT_STRINGS" "Z" ∈ BIG) (q : V X mt R Z A (pc + 3) L (.int 1 :: st) h) : V X mt R Z A pc L st h := by
  intro p e s m args below meth c0 H locs ls hF hH hz hl
  have hF' := hF
  obtain ⟨hx, hb, -, -, hml, hown, -, hts, hK, hSV, hSH, -⟩ := hF'
  exact va_gets hx hb hSH.2.1 hH.2 hown (hts _ hlk) (fun _ z => z) hd (q p e s m args below meth c0 H locs ls hF hH hz hl)
theorem v_gsf (hd : decode mt.2.1 pc = .ok (.getstatic idx, 3)) (hlk : Cond.fieldLink mt.1.cls idx "jdk/internal/util/Preconditions" "SIOOBE_FORMATTER" "Ljava/util/function/BiFunction;" ∈ BIG) (q : ∀ v : Value, (v = .null ∨ v = .ref 10500) → V X mt R Z A (pc + 3) L (v :: st) h) : V X mt R Z A pc L st h := by
  intro p e s m args below meth c0 H locs ls hF hH hz hl
  have hF' := hF
  obtain ⟨hx, hb, -, -, hml, hown, -, hts, hK, hSV, hSH, -⟩ := hF'
  rcases hSH.2.2 with hZ | hZ
  · exact va_gets hx hb hZ hH.2 hown (hts _ hlk) (fun _ z => z) hd (q .null (Or.inl rfl) p e s m args below meth c0 H locs ls hF hH hz hl)
  · refine va_gets hx hb hZ hH.2 hown (hts _ hlk) (fun _ z => z) hd ?_
    have q' : W p X.1 e R s m args below meth c0 H locs A.2.2.1 A.2.2.2 (Z args below s) (F0 m (pc + 3) ls (.ref (ad X (10000 + 500)) :: st.map (tr X))) := q (.ref 10500) (Or.inr rfl) p e s m args below meth c0 H locs ls hF hH hz hl
    rw [ad_k (by omega)] at q'
    exact q'
theorem v_stlen {v : Int32} (hd : decode mt.2.1 pc = .ok (.arraylength, 1)) (hi : i < 3) (hv : Int32.ofNat (strN.getD i 0) = v) (q : V X mt R Z A (pc + 1) L (.int v :: st) h) : V X mt R Z A pc L (.ref (11000 + i) :: st) h := by
  intro p e s m args below meth c0 H locs ls hF hH hz hl
  have hF' := hF
  obtain ⟨hx, hb, -, -, hml, hown, -, hts, hK, hSV, hSH, -⟩ := hF'
  show W _ _ _ _ _ _ _ _ _ _ _ _ _ _ _ (F0 m pc ls (.ref (ad X (11000 + i)) :: st.map (tr X)))
  rw [ad_v]
  exact va_tlen hx hb (hSH.1.1 i hi).2.2.2 hH.2 hv hd (q p e s m args below meth c0 H locs ls hF hH hz hl)
theorem v_stb {x : Int32} (hd : decode mt.2.1 pc = .ok (.baload, 1)) (hi : i < 3) (hin : vp_in x (strN.getD i 0)) (q : V X mt R Z A (pc + 1) L (.int ((strB.getD i []).getD x.toNatClampNeg 0) :: st) h) : V X mt R Z A pc L (.int x :: .ref (11000 + i) :: st) h := by
  intro p e s m args below meth c0 H locs ls hF hH hz hl
  have hF' := hF
  obtain ⟨hx, hb, -, -, hml, hown, -, hts, hK, hSV, hSH, -⟩ := hF'
  show W _ _ _ _ _ _ _ _ _ _ _ _ _ _ _ (F0 m pc ls (.int x :: .ref (ad X (11000 + i)) :: st.map (tr X)))
  rw [ad_v]
  exact va_tb hx hb (hSH.1.1 i hi).2.2.2 hH.2 hin rfl hd (q p e s m args below meth c0 H locs ls hF hH hz hl)
/-- a constant text -/
def LDS : List (String × Nat × Nat) := [("SevenTown$RuleText", 85, 0), ("SevenTownModel", 32, 0), ("SevenTownModel", 26, 1), ("SevenTown", 189, 2)]
theorem v_ldcs {k : Nat} (hd : decode mt.2.1 pc = .ok (.ldc idx, 2)) (hlk : (mt.1.cls, idx, k) ∈ LDS) (q : V X mt R Z A (pc + 2) L (.ref (10000 + k) :: st) h) : V X mt R Z A pc L st h := by
  intro p e s m args below meth c0 H locs ls hF hH hz hl
  have hF' := hF
  obtain ⟨hx, hb, -, -, hml, hown, -, hts, hK, hSV, hSH, -⟩ := hF'
  have q' : W p X.1 e R s m args below meth c0 H locs A.2.2.1 A.2.2.2 (Z args below s) (F0 m (pc + 2) ls (.ref (ad X (10000 + k)) :: st.map (tr X))) := q p e s m args below meth c0 H locs ls hF hH hz hl
  simp only [LDS, List.mem_cons, List.not_mem_nil, or_false, Prod.mk.injEq] at hlk
  rcases hlk with ⟨e1, rfl, rfl⟩ | ⟨e1, rfl, rfl⟩ | ⟨e1, rfl, rfl⟩ | ⟨e1, rfl, rfl⟩ <;> (rw [ad_k (by omega)] at q'; rw [e1] at hown)
  · exact va_ldcS hx hb hown hSV.2.1 hd q'
  · exact va_ldcS hx hb hown hSV.2.2.1 hd q'
  · exact va_ldcS hx hb hown hSV.2.2.2.1 hd q'
  · exact va_ldcS hx hb hown hSV.2.2.2.2 hd q'
variable {cm : MT} {d n : Nat} {av : List Value} {Q : Option Value → AH → Prop} {nx' sz' mc ms : Nat} {PI : Int32 → AH → Prop}
theorem st_cat (hst : (st.map fun v => v.category).sum ≤ 8) : ((st.map (tr X)).map fun v => v.category).sum ≤ 8 := by
  rw [List.map_map]
  have : ((fun v => Value.category v) ∘ tr X) = fun v => v.category := funext fun v => tr_cat
  rw [this]
  exact hst
/-- a method of a text -/
theorem v_cTI (hmt : MtOk cm n) (hlk : CLk mt.1.cls idx cm) (hin : Cond.instanceMethod cm.1 ∈ BIG) (hsel : Cond.selects cm.1.cls cm.1 cm.1 ∈ BIG) (hn : av.length = n) (hcn : cm.1.cls = "java/lang/String") (hi : i < 3) (hR : RO R (d + 1)) (hcs : A.2.2.1 ≤ R.cells ∧ A.2.2.2 ≤ R.slots) (hst : (st.map fun v => v.category).sum ≤ 8)
    (hd : decode mt.2.1 pc = .ok (.invokevirtual idx, 3)) {st1 : List Value} (hst1 : st1 = av.reverse ++ .ref (10000 + i) :: st) (hM : Mk X d cm (.ref (10000 + i) :: av) h A.1 A.2.1 (RI PI)) (q : ∀ (y : Int32) (h' : AH), PI y h' → V X mt R Z A (pc + 3) L (.int y :: st) h') : V X mt R Z A pc L st1 h := by
  subst hst1
  intro p e s m args below meth c0 H locs ls hF hH hz hl
  have hF' := hF
  obtain ⟨hx, hb, -, -, hml, hown, -, hts, hK, hSV, hSH, -⟩ := hF'
  have hG : GoodIn BIG (wsV mt.1.cls idx cm.1.cls cm.1 (wsM cm)) := goodIn_BIG (fun w hw => by
    rcases List.mem_append.mp hw with h1 | h1
    · simp only [List.mem_cons, List.not_mem_nil, or_false] at h1
      rcases h1 with rfl | rfl | rfl | rfl
      · exact hlk
      · exact hin
      · exact hsel
      · exact hmt.2.2.2.2.2
    · exact wsM_good hmt w h1)
  have hrecv := vk_recv hSH.1 hi hH.2
  rw [← hcn, ← ad_k (X := X) (by omega)] at hrecv
  refine v_back (rest := st) (Q := RI PI) hF hH hl hz (Nat.le_refl _) (va_runV (As := av.map (tr X)) (C := cm.1.cls) (b := ad X (10000 + i)) ⟨hx, hb, hml, hown, hts⟩ hM (cwV n hts hG rfl rfl rfl ⟨rfl, hmt.2.2.1.1, hmt.2.2.1.2, hmt.2.2.2.1⟩ ⟨hR.1, by have := hR.2; have := hmt.2.2.2.2.1; show 8 + (cm.2.2.1 + 11) + 64 * d ≤ _; omega⟩) ⟨PcM.blind, hrecv, fun U hU hW => PcM.at (av := .ref (10000 + i) :: av) hF hH hz U hU hW⟩ rfl (by simpa using hn) hl.1 ?_ (lv_room (st_cat hst)) hd hcs) (fun r h' hq => by obtain ⟨y, rfl, hp⟩ := hq; exact q y h' hp)
  show (av.reverse ++ .ref (10000 + i) :: st).map (tr X) = _
  simp [tr]
-- making
def newH (h : AH) (k : Nat) : AH := (fun a => if a = k then fun _ => 0 else h.1 a, fun a => if a = k then fun _ => 0 else h.2.1 a, fun a => if a = k then fun _ => none else h.2.2 a)
theorem newH_ne {k : Nat} : ∀ a, a < k → ent X (newH h k) a = ent X h a := fun a ha => entA_congr (if_neg (by omega)) (if_neg (by omega)) (if_neg (by omega))
theorem newH_fv {k j : Nat} {ty : FieldType} (hty : ∀ t, ty ≠ .float ∧ ty ≠ .double ∧ (ty = t → True)) : fv X ty (newH h k) k j = defaultValue ty := by
  have e1 : (newH h k).1 k = fun _ => 0 := if_pos rfl
  have e2 : (newH h k).2.1 k = fun _ => 0 := if_pos rfl
  have e3 : (newH h k).2.2 k = fun _ => none := if_pos rfl
  have := hty .int
  cases ty <;> simp [fv, e1, e2, e3, defaultValue, va_rf] <;> first | exact absurd rfl this.1 | exact absurd rfl this.2.1
theorem P_push {H H' : Heap} {nx : Nat} {h' : AH} (hP : va_P X.2.2.1 vwCl (wsL X h nx) H) (hk : va_at X.2.2.1 vwCl (X.2.1 + nx, ent X h' nx) H') (hne : ∀ a, a < nx → ent X h' a = ent X h a) (oq : ∀ q, q < H.size → H'[q]? = H[q]?) : va_P X.2.2.1 vwCl (wsL X h' (nx + 1)) H' := by
  intro i q hq
  have li : i < nx + 1 := by simpa [wsL] using (List.getElem?_eq_some_iff.mp hq).1
  rw [wsL_at li] at hq
  cases hq
  by_cases e : i = nx
  · subst e
    exact hk
  · have li : i < nx := by omega
    rw [hne i li]
    have h1 := hP i _ (wsL_at li)
    exact va_at.kept h1 (oq _ h1.lt)
theorem v_new {c N : Nat} (hd : decode mt.2.1 pc = .ok (.new idx, 3)) (hc : ClOk c N) (hlk : Cond.classLink mt.1.cls idx (ROf c) ∈ BIG) (hins : Cond.instantiable (ROf c) N ∈ BIG) (hini : Cond.initialized (ROf c) ∈ BIG) (hnf : ∀ k, k < N → tyOf c k ≠ .float ∧ tyOf c k ≠ .double) (hk : kd X A.1 = (c, N)) (hz0 : A.2.1 = X.2.1 + A.1) (hcs : A.2.2.1 + 1 ≤ R.cells ∧ A.2.2.2 + N ≤ R.slots)
    (q : V X mt R Z (A.1 + 1, A.2.1 + 1, A.2.2.1 + 1, A.2.2.2 + N) (pc + 3) L (.ref A.1 :: st) (newH h A.1)) : V X mt R Z A pc L st h := by
  intro p e s m args below meth c0 H locs ls hF hH hz hl
  have hF' := hF
  obtain ⟨hx, hb, -, -, hml, hown, -, hts, hK, hSV, hSH, -⟩ := hF'
  have hKn := hK.1 c _ hc.2.1
  refine W.newcK hx hb hown (hts _ hlk) (hts _ hins) (hts _ hini) rfl hd hcs.1 hcs.2 hKn.2.1 rfl fun H1 kC hkC e1 z1 o1 => ?_
  have eh : H.size = ad X A.1 := by rw [ad_own (kd_lt hk (by have := hc.1; omega)), hz, hz0]
  have q' := q p e s m args below meth c0 H1 locs ls hF ⟨P_push hH.1 ?_ newH_ne o1, ⟨Nat.le_trans hH.2.1 (by omega), fun x h1 h2 => (o1 x (Nat.lt_of_lt_of_le h1 hH.2.1)).trans (hH.2.2.1 x h1 h2), hH.2.2.2⟩⟩ (by rw [z1, hz]) hl
  · rw [eh]
    exact q'
  · rw [ent_obj hk hc.1]
    refine ⟨_, hc.2.1, ?_⟩
    have hb2 := u_born (tyOf c) hts hc.2.2.1 hKn hkC e1 hc.2.2.2.1
    rw [hz, hz0] at hb2
    refine hb2.to (fun j hj => ?_)
    show _ = vp_V ((List.range N).map (fun j => fv X (tyOf c j) (newH h A.1) A.1 j)) j
    unfold vp_V
    rw [List.getD_eq_getElem?_getD, fv_get hj, newH_fv (fun t => ⟨(hnf j hj).1, (hnf j hj).2, fun _ => trivial⟩)]
    rfl
theorem v_newa {kc N : Nat} {n : Int32} {atype : ArrayType} (hd : decode mt.2.1 pc = .ok (.newarray atype, 2)) (hty : newarray.typeOf atype = tyAr kc) (hkc : 20 ≤ kc ∧ kc < 24) (harr : Cond.arrayClass (tyAr kc) ∈ BIG) (hn : ¬ n < 0) (hN : n.toNatClampNeg = N) (hN2 : N ≤ 10000) (hk : kd X A.1 = (kc, N)) (hz0 : A.2.1 = X.2.1 + A.1) (hcs : A.2.2.1 + 1 ≤ R.cells ∧ A.2.2.2 + N ≤ R.slots)
    (q : V X mt R Z (A.1 + 1, A.2.1 + 1, A.2.2.1 + 1, A.2.2.2 + N) (pc + 2) L (.ref A.1 :: st) (newH h A.1)) : V X mt R Z A pc L (.int n :: st) h := by
  intro p e s m args below meth c0 H locs ls hF hH hz hl
  have hF' := hF
  obtain ⟨hx, hb, -, -, hml, hown, -, hts, hK, hSV, hSH, -⟩ := hF'
  have eh : H.size = ad X A.1 := by rw [ad_own (kd_lt hk (by omega)), hz, hz0]
  refine va_newaK hx hb (by rw [hty]; exact hts _ harr) (g := F0 m pc ls (.int n :: st.map (tr X))) rfl hd rfl hn hN ?_ hcs.1 hcs.2 rfl fun H1 cA e1 z1 o1 hAr hNm => ?_
  · have : componentBytes (newarray.typeOf atype) ≤ 8 := by cases atype <;> decide
    calc N * componentBytes (newarray.typeOf atype) ≤ 10000 * 8 := Nat.mul_le_mul hN2 this
      _ ≤ _ := by decide
  have hcls : cA = X.2.2.2.1 kc := by
    rw [hty] at hNm
    rcases (by omega : kc = 20 ∨ kc = 21 ∨ kc = 22 ∨ kc = 23) with rfl | rfl | rfl | rfl
    · exact Option.some.inj (hNm.symm.trans (hK.2 0 _ rfl).2)
    · exact Option.some.inj (hNm.symm.trans (hK.2 1 _ rfl).2)
    · exact Option.some.inj (hNm.symm.trans (hK.2 2 _ rfl).2)
    · exact Option.some.inj (hNm.symm.trans (hK.2 3 _ rfl).2)
  have q' := q p e s m args below meth c0 H1 locs ls hF ⟨P_push hH.1 ?_ newH_ne o1, ⟨Nat.le_trans hH.2.1 (by omega), fun x h1 h2 => (o1 x (Nat.lt_of_lt_of_le h1 hH.2.1)).trans (hH.2.2.1 x h1 h2), hH.2.2.2⟩⟩ (by rw [z1, hz]) hl
  · show W _ _ _ _ _ _ _ _ _ _ _ _ _ _ _ (F0 m (pc + 2) ls (.ref H.size :: st.map (tr X)))
    rw [eh]
    exact q'
  · have f1 : (newH h A.1).1 A.1 = fun _ => 0 := if_pos rfl
    have f2 : (newH h A.1).2.1 A.1 = fun _ => 0 := if_pos rfl
    unfold ent
    rw [hk]
    rw [hz, hz0, hcls, hty] at e1
    rcases (by omega : kc = 20 ∨ kc = 21 ∨ kc = 22 ∨ kc = 23) with rfl | rfl | rfl | rfl
    · show H1[_]? = some (vp_cell _ (N, .inl ((newH h A.1).1 A.1)))
      rw [f1, vp_cell_i]
      exact e1
    · show H1[_]? = some (vp_cell _ (N, .inl ((newH h A.1).1 A.1)))
      rw [f1, vp_cell_i]
      exact e1
    · show H1[_]? = some (vp_cell _ (N, .inl ((newH h A.1).1 A.1)))
      rw [f1, vp_cell_i]
      exact e1
    · show H1[_]? = some (vp_cell _ (N, .inr (.inl ((newH h A.1).2.1 A.1))))
      rw [f2, vp_cell_l]
      exact e1
theorem v_objInit {k : Nat} (hd : decode mt.2.1 pc = .ok (.invokespecial idx, 3)) (hlk : Cond.methodLink mt.1.cls idx objectInit ∈ BIG) (hin : Cond.instanceMethod objectInit ∈ BIG) (hcd : Cond.code objectInit ⟨#[0xb1]⟩ 1 none ∈ BIG) (hR : RO R 1) (hst : (st.map fun v => v.category).sum ≤ 8) (q : V X mt R Z A (pc + 3) L st h) : V X mt R Z A pc L (.ref k :: st) h := by
  intro p e s m args below meth c0 H locs ls hF hH hz hl
  have hF' := hF
  obtain ⟨hx, hb, -, -, hml, hown, -, hts, hK, hSV, hSH, -⟩ := hF'
  exact W.objInit hx hb hown (hts _ hlk) (hts _ hin) (hts _ hcd) (g := F0 m pc ls (.ref (ad X k) :: st.map (tr X))) rfl (hl.1.trans hml.symm) rfl hd hR.1 (by have := hR.2; have := st_cat (X := X) hst; show 2 * 0 + _ + 12 ≤ _; omega) (q p e s m args below meth c0 H locs ls hF hH hz hl)
/-- a constructor of ours is called -/
theorem v_callI {k : Nat} (hM : Mok X d cm (.ref k :: av) h A.1 A.2.1 nx' sz' mc ms Q) (hmt : MtOk cm n) (hlk : CLk mt.1.cls idx cm) (hin : Cond.instanceMethod cm.1 ∈ BIG) (hnm : cm.1.name = "<init>") (hret : cm.2.2.2 = none) (hn : av.length = n) (hR : RO R (d + 1)) (hcs : A.2.2.1 + mc ≤ R.cells ∧ A.2.2.2 + ms ≤ R.slots) (hle : A.2.1 ≤ sz') (hst : (st.map fun v => v.category).sum ≤ 8)
    (hd : decode mt.2.1 pc = .ok (.invokespecial idx, 3)) {st1 : List Value} (hst1 : st1 = av.reverse ++ .ref k :: st) (q : ∀ (r : Option Value) (h' : AH), Q r h' → V X mt R Z (nx', sz', A.2.2.1 + mc, A.2.2.2 + ms) (pc + 3) L (r.toList ++ st) h') : V X mt R Z A pc L st1 h := by
  subst hst1
  intro p e s m args below meth c0 H locs ls hF hH hz hl
  have hF' := hF
  obtain ⟨hx, hb, -, -, hml, hown, -, hts, hK, -⟩ := hF'
  have hw : wsM cm = Cond.code cm.1 cm.2.1 cm.2.2.1 none :: BIG := by unfold wsM; rw [hret]
  refine v_back (rest := st) hF hH hl hz hle (va_runI (As := av.map (tr X)) (b := ad X k) ⟨hx, hb, hml, hown, hts⟩ hM (cwI n hts (goodIn_BIG (wsM_good hmt)) hw rfl rfl (hts _ hmt.2.2.2.2.2) (hts _ hlk) (hts _ hin) hnm ⟨hmt.2.2.1.1, hmt.2.2.1.2, hmt.2.2.2.1⟩ ⟨hR.1, by have := hR.2; have := hmt.2.2.2.2.1; show 8 + (cm.2.2.1 + 11) + 64 * d ≤ _; omega⟩) ⟨PcM.blind, fun U hU hW => PcM.at (av := .ref k :: av) hF hH hz U hU hW⟩ rfl (by simpa using hn) hl.1 ?_ (lv_room (st_cat hst)) hd hcs) q
  show (av.reverse ++ .ref k :: st).map (tr X) = _
  simp [tr]
theorem v_callIN {k : Nat} {host : String} (hM : Mok X d cm (.ref k :: av) h A.1 A.2.1 nx' sz' mc ms Q) (hmt : MtOk cm n) (hlk : (mt.1.cls, idx, cm.1, host) ∈ NEST) (hin : Cond.instanceMethod cm.1 ∈ BIG) (hnm : cm.1.name = "<init>") (hret : cm.2.2.2 = none) (hn : av.length = n) (hR : RO R (d + 1)) (hcs : A.2.2.1 + mc ≤ R.cells ∧ A.2.2.2 + ms ≤ R.slots) (hle : A.2.1 ≤ sz') (hst : (st.map fun v => v.category).sum ≤ 8)
    (hd : decode mt.2.1 pc = .ok (.invokespecial idx, 3)) {st1 : List Value} (hst1 : st1 = av.reverse ++ .ref k :: st) (q : ∀ (r : Option Value) (h' : AH), Q r h' → V X mt R Z (nx', sz', A.2.2.1 + mc, A.2.2.2 + ms) (pc + 3) L (r.toList ++ st) h') : V X mt R Z A pc L st1 h := by
  subst hst1
  intro p e s m args below meth c0 H locs ls hF hH hz hl
  have hF' := hF
  obtain ⟨hx, hb, -, -, hml, hown, -, hts, hK, -⟩ := hF'
  have hw : wsM cm = Cond.code cm.1 cm.2.1 cm.2.2.1 none :: BIG := by unfold wsM; rw [hret]
  refine v_back (rest := st) hF hH hl hz hle (va_runIN (As := av.map (tr X)) (b := ad X k) (host := host) ⟨hx, hb, hml, hown, hts⟩ hM ⟨va_cnB n hts (goodIn_BIG (wsM_good hmt)) hw rfl rfl (hF.2.2.2.2.2.2.2.2.2.1.1 _ hlk) (hts _ hmt.2.2.2.2.2) ⟨hmt.2.2.1.1, hmt.2.2.1.2, hmt.2.2.2.1⟩ ⟨hR.1, by have := hR.2; have := hmt.2.2.2.2.1; show 8 + (cm.2.2.1 + 11) + 64 * d ≤ _; omega⟩, hnm, hts _ hin⟩ ⟨PcM.blind, fun U hU hW => PcM.at (av := .ref k :: av) hF hH hz U hU hW⟩ rfl (by simpa using hn) hl.1 ?_ (lv_room (st_cat hst)) hd hcs) q
  show (av.reverse ++ .ref k :: st).map (tr X) = _
  simp [tr]
/-- new int[N][K]: the outer row at nx, the inner ones behind it -/
def newM (h : AH) (k N : Nat) : AH := (fun a => if k ≤ a ∧ a ≤ k + N then fun _ => 0 else h.1 a, h.2.1, fun a => if a = k then (fun i => if i < N then some (k + 1 + i) else none) else if k < a ∧ a ≤ k + N then fun _ => none else h.2.2 a)
theorem v_mna {n k : Int32} {N K : Nat} (hd : decode mt.2.1 pc = .ok (.multianewarray idx 2, 4)) (hlk : Cond.classLink mt.1.cls idx "[[I" ∈ BIG) (hov : Cond.arrayOver (.array .int) ∈ BIG) (harr : Cond.arrayClass .int ∈ BIG) (hn : ¬ n < 0) (hN : n.toNatClampNeg = N) (hk : ¬ k < 0) (hK0 : k.toNatClampNeg = K) (hN2 : N ≤ 1000) (hK2 : K ≤ 1000) (hko : kd X A.1 = (24, N)) (hki : ∀ i, i < N → kd X (A.1 + 1 + i) = (20, K)) (hlt : A.1 + N < 91) (hz0 : A.2.1 = X.2.1 + A.1) (hcs : A.2.2.1 + (1 + N) ≤ R.cells ∧ A.2.2.2 + (N + N * K) ≤ R.slots)
    (q : V X mt R Z (A.1 + 1 + N, A.2.1 + 1 + N, A.2.2.1 + 1 + N, A.2.2.2 + N + N * K) (pc + 4) L (.ref A.1 :: st) (newM h A.1 N)) : V X mt R Z A pc L (.int k :: .int n :: st) h := by
  subst hN
  subst hK0
  intro p e s m args below meth c0 H locs ls hF hH hz hl
  have hF' := hF
  obtain ⟨hx, hb, -, -, hml, hown, -, hts, hK, hSV, hSH, -⟩ := hF'
  intro T hT XT
  obtain ⟨vm₁, cA, comp, hW, fA, fC, hO, hI, X', step⟩ := XT.multianewarray2F hx hown (index := idx) (ty := .int) (hts _ hlk) (hts _ hov) (hts _ harr) (g := F0 m pc ls (.int k :: .int n :: st.map (tr X))) rfl (by rw [hb]; exact hd) rfl hn hk (by omega) (by show _ * 4 ≤ _; omega) (by omega) rfl rfl hcs.1 hcs.2
  have hcA : cA = X.2.2.2.1 24 := Option.some.inj (fA.symm.trans (hK.2 4 _ rfl).2)
  have hcI : comp = X.2.2.2.1 20 := Option.some.inj (fC.symm.trans (hK.2 0 _ rfl).2)
  generalize hNe : n.toNatClampNeg = N at *
  generalize hKe : k.toNatClampNeg = K at *
  generalize hFe : Jvm.Free.Multi.fill (T.setVm vm₁) cA comp N K (defaultValue .int) N = F at X' step
  have hTh : (T.setVm vm₁).heap = H := hT
  obtain ⟨f1, f2, -, -⟩ := Jvm.Free.Multi.fill_facts (T.setVm vm₁) cA comp N K (defaultValue .int) N
  rw [hFe, hTh] at f1 f2
  have hold : ∀ x : Nat, x < H.size → F.heap[x]? = H[x]? := fun x hx => by
    have := Jvm.Free.Multi.fill_old (T.setVm vm₁) cA comp N K (defaultValue .int) (a := x) (by rw [hTh]; exact hx) N
    rw [hFe, hTh] at this
    exact this
  have hrow : ∀ j : Nat, j < N → F.heap[H.size + 1 + j]? = some (Jvm.Free.Multi.innerC comp K (defaultValue .int)) := fun j hj => by
    have := Jvm.Free.Multi.fill_inner (T.setVm vm₁) cA comp N K (defaultValue .int) N j hj
    rw [hFe, hTh] at this
    exact this
  have eh : H.size = ad X A.1 := by rw [ad_own (by omega), hz, hz0]
  have ehn : H.size = X.2.1 + A.1 := by rw [hz, hz0]
  have z1 : F.heap.size = H.size + 1 + N := by omega
  rw [vr_outer] at f2
  have g1 : ∀ a, A.1 ≤ a → a ≤ A.1 + N → (newM h A.1 N).1 a = fun _ => 0 := fun a h1 h2 => if_pos ⟨h1, h2⟩
  have hP1 : va_P X.2.2.1 vwCl (wsL X (newM h A.1 N) (A.1 + 1 + N)) F.heap := by
    intro i q1 hq1
    have li : i < A.1 + 1 + N := by simpa [wsL] using (List.getElem?_eq_some_iff.mp hq1).1
    rw [wsL_at li] at hq1
    cases hq1
    by_cases e : i < A.1
    · have h1 := hH.1 i _ (wsL_at e)
      have e2 : ent X (newM h A.1 N) i = ent X h i := entA_congr (if_neg (by omega)) rfl ((if_neg (by omega)).trans (if_neg (by omega)))
      rw [e2]
      exact va_at.kept h1 (hold _ h1.lt)
    · by_cases e0 : i = A.1
      · subst e0
        unfold ent
        rw [hko]
        show F.heap[_]? = some (vp_cell _ (N, .inr (.inr (.inr (.inr (fun j => ((newM h A.1 N).2.2 A.1 j).map (ad X)))))))
        rw [vp_cell_q, ← ehn, f2, hcA]
        congr 2
        funext j
        have g3 : (newM h A.1 N).2.2 A.1 = fun i => if i < N then some (A.1 + 1 + i) else none := if_pos rfl
        rw [g3]
        by_cases hj : j < N
        · simp only [hj, if_true, Option.map_some]
          rw [ad_own (by omega), ehn, Nat.add_assoc X.2.1 A.1 1, Nat.add_assoc X.2.1 (A.1 + 1) j]
        · simp only [hj, if_false, Option.map_none]
      · obtain ⟨j, rfl⟩ : ∃ j, i = A.1 + 1 + j := ⟨i - (A.1 + 1), by omega⟩
        have hj : j < N := by omega
        unfold ent
        rw [hki j hj]
        show F.heap[_]? = some (vp_cell _ (K, .inl ((newM h A.1 N).1 (A.1 + 1 + j))))
        rw [g1 _ (by omega) (by omega), vp_cell_i, show X.2.1 + (A.1 + 1 + j) = H.size + 1 + j by omega, hrow j hj, ← arrV_new, hcI]
        rfl
  obtain ⟨t, a1, b1⟩ := q p e s m args below meth c0 F.heap locs ls hF ⟨hP1, ⟨Nat.le_trans hH.2.1 (by omega), fun x h1 h2 => (hold x (Nat.lt_of_lt_of_le h1 hH.2.1)).trans (hH.2.2.1 x h1 h2), hH.2.2.2⟩⟩ (by show _ = A.2.1 + 1 + N; omega) hl F rfl X'
  refine ⟨t, step t ?_, b1⟩
  have q3 : (F0 m pc ls (.int k :: .int n :: st.map (tr X))).pc + 4 = pc + 4 := rfl
  rw [hT, eh]
  exact a1
end VT
