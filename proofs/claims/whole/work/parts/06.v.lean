-- contracts, calls, ends
def PcM (X : CX) (av : List Value) (h : AH) (nx sz : Nat) : Array Value → State → Prop := fun v U => v = (av.map (tr X)).toArray ∧ U.heap.size = sz ∧ X.2.1 ≤ sz ∧ va_P X.2.2.1 vwCl (wsL X h nx) U.heap ∧ va_K X.2.2.1 vwCl (tysOf X) U ∧ StrV X U ∧ StrH X U U.heap
def QcM (X : CX) (Q : Option Value → AH → Prop) (nx sz : Nat) : Array Value → State → Outcome → State → Prop := fun _ st o t => (∃ (r : Option Value) (h' : AH), o = .returned (r.map (tr X)) ∧ Q r h' ∧ va_P X.2.2.1 vwCl (wsL X h' nx) t.heap) ∧ t.heap.size = sz ∧ va_F (Own X) st t
def ZM (X : CX) (Q : Option Value → AH → Prop) (nx sz mc ms : Nat) : ZX := fun args below s => MQ below (QcM X Q nx sz) args s mc ms (Own X)
def wsM (mt : MT) : List Cond := Cond.code mt.1 mt.2.1 mt.2.2.1 mt.2.2.2 :: BIG
def rm (d mc ms : Nat) : Room := { frames := d, cells := mc, slots := ms, locals := 64 * d }
/-- what the tables say of a method: n words of arguments (parameters, without this) -/
def MtOk (mt : MT) (n : Nat) : Prop := plainName mt.1.cls = true ∧ Cond.code mt.1 mt.2.1 mt.2.2.1 mt.2.2.2 ∈ BIG ∧ (mt.1.cls ≠ "java/lang/invoke/MethodHandle" ∧ mt.1.cls ≠ "java/lang/invoke/VarHandle") ∧ (parseMethodDescriptor mt.1.desc).map (fun d => d.parameters.length) = some n ∧ mt.2.2.1 ≤ 40 ∧ Cond.initialized mt.1.cls ∈ BIG
/-- a method's contract: from nx cells and a heap of sz cells to nx' and sz', mc cells of ms slots made -/
def Mok (X : CX) (d : Nat) (mt : MT) (av : List Value) (h : AH) (nx sz nx' sz' mc ms : Nat) (Q : Option Value → AH → Prop) : Prop :=
  Met X.1 mt.1 (wsM mt) (rm d mc ms) (PcM X av h nx sz) (QcM X Q nx' sz') mc ms (Own X)
/-- a method that makes nothing -/
abbrev Mk (X : CX) (d : Nat) (mt : MT) (av : List Value) (h : AH) (nx sz : Nat) (Q : Option Value → AH → Prop) : Prop := Mok X d mt av h nx sz nx sz 0 0 Q
theorem QcM.mono {X : CX} {Q Q' : Option Value → AH → Prop} {nx sz : Nat} {a : Array Value} {st t : State} {o : Outcome} (hq : ∀ r h', Q r h' → Q' r h') (h : QcM X Q nx sz a st o t) : QcM X Q' nx sz a st o t := by
  obtain ⟨⟨r, h', h1, h2, h3⟩, h4⟩ := h
  exact ⟨⟨r, h', h1, hq r h' h2, h3⟩, h4⟩
theorem V.mono {X : CX} {mt : MT} {R : Room} {A : AX} {pc : Nat} {L : List (Option Value)} {st : List Value} {h : AH} {Q Q' : Option Value → AH → Prop} {nx sz mc ms : Nat} (hq : ∀ r h', Q r h' → Q' r h') (q : V X mt R (ZM X Q nx sz mc ms) A pc L st h) : V X mt R (ZM X Q' nx sz mc ms) A pc L st h := by
  intro p e s m args below meth c0 H locs ls hF hH hz hl T hT XT
  obtain ⟨t, a, o, b1, b2, b3, b4⟩ := q p e s m args below meth c0 H locs ls hF hH hz hl T hT XT
  exact ⟨t, a, o, b1, b2, b3.mono hq, b4⟩
/-- the locals with which a method begins -/
def ent0 : List Value → List (Option Value)
  | [] => []
  | v :: vs => some v :: (if v.category = 2 then none :: ent0 vs else ent0 vs)
theorem ent0_args {X : CX} : ∀ (vs : List Value) (i j : Nat) (v : Value), (ent0 vs)[j]? = some (some v) → (i + j, tr X v) ∈ lv_args i (vs.map (tr X))
  | [], i, j, v, h => by simp [ent0] at h
  | w :: vs, i, 0, v, h => by
    have h : some (some w) = some (some v) := h
    cases h
    exact List.mem_cons_self
  | w :: vs, i, j + 1, v, h => by
    simp only [ent0, List.getElem?_cons_succ] at h
    refine List.mem_cons_of_mem _ ?_
    rw [tr_cat]
    split at h
    next hc =>
      rw [if_pos hc]
      cases j with
      | zero => simp at h
      | succ j =>
        rw [List.getElem?_cons_succ] at h
        have := ent0_args (X := X) vs (i + 2) j v h
        rw [show i + (j + 1 + 1) = i + 2 + j by omega]
        exact this
    next hc =>
      rw [if_neg hc]
      have := ent0_args (X := X) vs (i + 1) j v h
      rw [show i + (j + 1) = i + 1 + j by omega]
      exact this
theorem lg_sl_len {X : CX} : ∀ vs : List Value, (lg_sl (vs.map (tr X))).length = (ent0 vs).length
  | [] => rfl
  | v :: vs => by
    have := lg_sl_len (X := X) vs
    by_cases hc : v.category = 2
    · simp [lg_sl, ent0, tr_cat, hc] at this ⊢
      omega
    · simp [lg_sl, ent0, tr_cat, hc] at this ⊢
      omega
theorem Mok.ofV {X : CX} {d : Nat} {mt : MT} {n : Nat} {av : List Value} {h : AH} {nx sz nx' sz' mc ms : Nat} {Q : Option Value → AH → Prop} (hmt : MtOk mt n) (hlen : (ent0 av).length ≤ mt.2.2.1) {L : List (Option Value)} (hL : lvLe L (ent0 av)) (q : V X mt (rm d mc ms) (ZM X Q nx' sz' mc ms) (nx, sz, 0, 0) 0 L [] h) : Mok X d mt av h nx sz nx' sz' mc ms Q := by
  obtain ⟨hpl, hcd, hnh, hds, hml40, hini⟩ := hmt
  refine Met.ofW (cc := mt.2.1) (maxL := mt.2.2.1) (ret := mt.2.2.2) hpl rfl ?_
  intro p e s m args below meth c s₁ B hml hv
  obtain ⟨rfl, hsz, hb0, hP, hK, hSV, hSH⟩ := hv
  have hts := atoms_spec (ws := wsM mt) B.pre
  have hF : Fr X mt p s m (av.map (tr X)).toArray meth c := ⟨B.exec, B.bytes, B.returns, B.notSynchronized, hml, findClass_of_methodNamed B.named, (name_of_methodNamed B.named B.method).1, fun w hw => hts w (List.mem_cons_of_mem _ hw), hK, hSV, hSH, by rw [hsz]; exact hb0⟩
  rw [lg_entry_eq]
  have hl0 := lv_entry (av.map (tr X)) (n := mt.2.2.1) (by rw [lg_sl_len]; exact hlen)
  generalize (lg_sl (av.map (tr X)) ++ List.replicate (mt.2.2.1 - (lg_sl (av.map (tr X))).length) Slot.unset).toArray = ls at hl0 ⊢
  refine q p e s m _ below meth c s.heap [] ls hF ⟨hP, va_S.rf⟩ hsz (lvR_weak (L := ent0 av) ?_ (lvLe_at _ _ hL))
  refine ⟨hl0.1, hl0.2.1, fun z hz => ?_⟩
  obtain ⟨j, w⟩ := z
  obtain ⟨-, h2⟩ := (lvl_in _ 0 j).mp hz
  rw [Nat.sub_zero, List.getElem?_map] at h2
  cases hL : (ent0 av)[j]? with
  | none => rw [hL] at h2; cases h2
  | some o =>
    cases o with
    | none => rw [hL] at h2; cases h2
    | some v =>
      rw [hL] at h2
      have e2 : tr X v = w := by simpa using h2
      subst e2
      have := ent0_args (X := X) av 0 j v hL
      rw [Nat.zero_add] at this
      exact hl0.2.2 _ this
section VC
variable {X : CX} {mt : MT} {R : Room} {Z : ZX} {A : AX} {pc : Nat} {L : List (Option Value)} {st : List Value} {h : AH}
theorem v_iret {Q : Option Value → AH → Prop} {x : Int32} {nx sz mc ms : Nat} (hd : decode mt.2.1 pc = .ok (.ireturn, 1)) (hr : mt.2.2.2 = some .int) (hq : Q (some (.int x)) h) : V X mt R (ZM X Q nx sz mc ms) (nx, sz, mc, ms) pc L [.int x] h := by
  intro p e s m args below meth c0 H locs ls hF hH hz hl
  refine W.iret hF.1 hF.2.1 (by rw [hF.2.2.1, hr]) (fun t ht _ => ⟨⟨some (.int x), h, rfl, hq, by rw [ht]; exact hH.1⟩, by rw [ht]; exact hz, hH.2.F ht⟩) (fun q hq => hH.2.2.2 q hq) hd hF.2.2.2.1
theorem v_zret {Q : Option Value → AH → Prop} {x : Int32} {ty : FieldType} {nx sz mc ms : Nat} (hd : decode mt.2.1 pc = .ok (.ireturn, 1)) (hr : mt.2.2.2 = some ty) (hn : narrow ty (.int x) = .int x) (hq : Q (some (.int x)) h) : V X mt R (ZM X Q nx sz mc ms) (nx, sz, mc, ms) pc L [.int x] h := by
  intro p e s m args below meth c0 H locs ls hF hH hz hl
  refine W.zret hF.1 hF.2.1 (by rw [hF.2.2.1, hr]) hn (fun t ht _ => ⟨⟨some (.int x), h, rfl, hq, by rw [ht]; exact hH.1⟩, by rw [ht]; exact hz, hH.2.F ht⟩) (fun q hq => hH.2.2.2 q hq) hd hF.2.2.2.1
theorem v_lret {Q : Option Value → AH → Prop} {x : Int64} {nx sz mc ms : Nat} (hd : decode mt.2.1 pc = .ok (.lreturn, 1)) (hr : mt.2.2.2 = some .long) (hq : Q (some (.long x)) h) : V X mt R (ZM X Q nx sz mc ms) (nx, sz, mc, ms) pc L [.long x] h := by
  intro p e s m args below meth c0 H locs ls hF hH hz hl
  refine W.lret hF.1 hF.2.1 (by rw [hF.2.2.1, hr]) (fun t ht _ => ⟨⟨some (.long x), h, rfl, hq, by rw [ht]; exact hH.1⟩, by rw [ht]; exact hz, hH.2.F ht⟩) (fun q hq => hH.2.2.2 q hq) hd hF.2.2.2.1
theorem v_vret {Q : Option Value → AH → Prop} {nx sz mc ms : Nat} (hd : decode mt.2.1 pc = .ok (.return_, 1)) (hr : mt.2.2.2 = none) (hq : Q none h) : V X mt R (ZM X Q nx sz mc ms) (nx, sz, mc, ms) pc L [] h := by
  intro p e s m args below meth c0 H locs ls hF hH hz hl
  refine W.vret hF.1 hF.2.1 (by rw [hF.2.2.1, hr]) (fun t ht _ => ⟨⟨none, h, rfl, hq, by rw [ht]; exact hH.1⟩, by rw [ht]; exact hz, hH.2.F ht⟩) (fun q hq => hH.2.2.2 q hq) hd hF.2.2.2.1
/-- the caller has room for a callee of depth d -/
def RO (R : Room) (d : Nat) : Prop := d ≤ R.frames ∧ 64 * d ≤ R.locals
theorem RO_rm {d mc ms : Nat} : RO (rm d mc ms) d := ⟨Nat.le_refl _, Nat.le_refl _⟩
variable {cm : MT} {d n idx : Nat} {av : List Value} {Q : Option Value → AH → Prop} {nx' sz' mc ms : Nat}
/-- what comes behind a call -/
theorem v_back {p : Program} {e : Env} {s : State} {m : MethodId} {args : Array Value} {below : List Frame} {meth : Method} {c0 : Code} {H : Heap} {locs : List Loc} {ls : Array Slot} {st0 rest : List Value} {a : Array Value}
    (hF : Fr X mt p s m args meth c0) (hH : Hp X h A.1 s H locs) (hl : lvR X ls mt.2.2.1 L) (hz : H.size = A.2.1) (hle : A.2.1 ≤ sz')
    (hr : va_Run p X.1 e R s m args below meth c0 H locs A.2.2.1 A.2.2.2 mc ms (F0 m pc ls st0) (rest.map (tr X)) (QcM X Q nx' sz' a) (Own X))
    (q : ∀ (r : Option Value) (h' : AH), Q r h' → V X mt R Z (nx', sz', A.2.2.1 + mc, A.2.2.2 + ms) (pc + 3) L (r.toList ++ rest) h') : W p X.1 e R s m args below meth c0 H locs A.2.2.1 A.2.2.2 (Z args below s) (F0 m pc ls st0) := by
  intro T hT XT
  obtain ⟨v, st₀, t, T', L', h0, X', hL', e1, e2, ⟨⟨r, h', hv, hq, hP'⟩, hz', hfr⟩, hg⟩ := hr T hT XT
  cases hv
  have hsz : T'.heap.size = sz' := by rw [e1]; exact hz'
  have hS' : va_S (Own X) s.heap T'.heap (locs ++ L') := by
    refine ⟨by rw [hsz]; exact Nat.le_trans hH.2.1 (by rw [hz]; exact hle), fun x h1 h2 => ?_, fun x hx => ?_⟩
    · rw [e1, hfr.2 x (by rw [h0]; exact Nat.lt_of_lt_of_le h1 hH.2.1) h2, h0]
      exact hH.2.2.1 x h1 h2
    · rcases List.mem_append.mp hx with h1 | h1
      · exact hH.2.2.2 x h1
      · exact hL' x h1
  obtain ⟨t2, a1, b1⟩ := q r h' hq p e s m args below meth c0 T'.heap (locs ++ L') ls hF ⟨by rw [e1]; exact hP', hS'⟩ hsz hl T' rfl X'
  refine ⟨t2, hg t2 ?_, b1⟩
  have e3 : (r.map (tr X)).toList ++ rest.map (tr X) = (r.toList ++ rest).map (tr X) := by cases r <;> simp
  rw [e3]
  exact a1
theorem PcM.blind {nx sz : Nat} : FrameBlind (PcM X av h nx sz) := fun a U g mk hq => by
  obtain ⟨h1, h2, h3, h4, h5, h6, h7⟩ := hq
  exact ⟨h1, h2, h3, h4, va_K.moved (u := U) (U := U.calling g mk a) (Vm.Alike.refl U.vm) h5, h6.same (U := U.calling g mk a) rfl, StrH.moved (u := U) (U := U.calling g mk a) (Vm.Alike.refl U.vm) h7⟩
theorem PcM.at {p : Program} {s : State} {m : MethodId} {args : Array Value} {meth : Method} {c0 : Code} {H : Heap} {locs : List Loc} (hF : Fr X mt p s m args meth c0) (hH : Hp X h A.1 s H locs) (hz : H.size = A.2.1) (U : State) (hU : U.heap = H) (hW : s.WarmedH U.vm) : PcM X av h A.1 A.2.1 (av.map (tr X)).toArray U := by
  obtain ⟨-, -, -, -, -, -, -, -, hK, hSV, hSH, hb⟩ := hF
  refine ⟨rfl, by rw [hU, hz], by rw [← hz]; exact Nat.le_trans hb hH.2.1, by rw [hU]; exact hH.1, va_K.moved hW.alike hK, hSV.warm hW, ?_⟩
  rw [hU]
  exact (hSH.moved hW.alike).kept hH.2.2.1
def CLk (own : String) (idx : Nat) (cm : MT) : Prop := Cond.methodLink own idx cm.1 ∈ BIG
theorem goodIn_BIG {ws : List Cond} (h : ∀ w ∈ ws, w ∈ BIG) : GoodIn BIG ws := fun w hw => ⟨h w hw, good_of_word (BIG_g (h w hw))⟩
theorem wsM_good {n : Nat} (hm : MtOk cm n) : ∀ w ∈ wsM cm, w ∈ BIG := fun w hw => by
  rcases List.mem_cons.mp hw with e | e
  · rw [e]; exact hm.2.1
  · exact e
theorem v_callV {k c N : Nat} (hM : Mok X d cm (.ref k :: av) h A.1 A.2.1 nx' sz' mc ms Q) (hmt : MtOk cm n) (hlk : CLk mt.1.cls idx cm) (hin : Cond.instanceMethod cm.1 ∈ BIG) (hsel : Cond.selects cm.1.cls cm.1 cm.1 ∈ BIG) (hn : av.length = n) (hk : kd X k = (c, N)) (hc : ClOk c N) (hcn : ROf c = cm.1.cls) (hA : k < A.1) (hR : RO R (d + 1)) (hcs : A.2.2.1 + mc ≤ R.cells ∧ A.2.2.2 + ms ≤ R.slots) (hle : A.2.1 ≤ sz') (hst : (st.map fun v => v.category).sum ≤ 8)
    (hd : decode mt.2.1 pc = .ok (.invokevirtual idx, 3)) {st1 : List Value} (hst1 : st1 = av.reverse ++ .ref k :: st) (q : ∀ (r : Option Value) (h' : AH), Q r h' → V X mt R Z (nx', sz', A.2.2.1 + mc, A.2.2.2 + ms) (pc + 3) L (r.toList ++ st) h') : V X mt R Z A pc L st1 h := by
  subst hst1
  intro p e s m args below meth c0 H locs ls hF hH hz hl
  have h91 := kd_lt hk (by have := hc.1; omega)
  have hF' := hF
  obtain ⟨hx, hb, -, -, hml, hown, -, hts, hK, -⟩ := hF'
  have hG : GoodIn BIG (wsV mt.1.cls idx cm.1.cls cm.1 (wsM cm)) := goodIn_BIG (fun w hw => by
    rcases List.mem_append.mp hw with h1 | h1
    · simp only [List.mem_cons, List.not_mem_nil, or_false] at h1
      rcases h1 with rfl | rfl | rfl | rfl
      · exact hlk
      · exact hin
      · exact hsel
      · exact hmt.2.2.2.2.2
    · exact wsM_good hmt w h1)
  have he := (wsL_at (X := X) (h := h) hA).trans (by rw [ent_obj hk hc.1])
  have hrecv := va_recv hK hH.1 hc.2.1 he
  rw [show (ROf c, TOf c, N).1 = cm.1.cls from hcn, ← ad_own h91] at hrecv
  have hst2 : ((st.map (tr X)).map fun v => v.category).sum ≤ 8 := by
    rw [List.map_map]
    have : ((fun v => Value.category v) ∘ tr X) = fun v => v.category := funext fun v => tr_cat
    rw [this]
    exact hst
  refine v_back (rest := st) hF hH hl hz hle (va_runV (As := av.map (tr X)) (C := cm.1.cls) (b := ad X k) ⟨hx, hb, hml, hown, hts⟩ hM (cwV n hts hG rfl rfl rfl ⟨rfl, hmt.2.2.1.1, hmt.2.2.1.2, hmt.2.2.2.1⟩ ⟨hR.1, by have := hR.2; have := hmt.2.2.2.2.1; show 8 + (cm.2.2.1 + 11) + 64 * d ≤ _; omega⟩) ⟨PcM.blind, hrecv, fun U hU hW => PcM.at (av := .ref k :: av) hF hH hz U hU hW⟩ rfl (by simpa using hn) hl.1 ?_ (lv_room hst2) hd hcs) q
  show (av.reverse ++ .ref k :: st).map (tr X) = _
  simp [tr]
theorem v_callS (hM : Mok X d cm av h A.1 A.2.1 nx' sz' mc ms Q) (hmt : MtOk cm n) (hlk : CLk mt.1.cls idx cm) (hstc : Cond.static cm.1 ∈ BIG) (hn : av.length = n) (hR : RO R (d + 1)) (hcs : A.2.2.1 + mc ≤ R.cells ∧ A.2.2.2 + ms ≤ R.slots) (hle : A.2.1 ≤ sz') (hst : (st.map fun v => v.category).sum ≤ 8)
    (hd : decode mt.2.1 pc = .ok (.invokestatic idx, 3)) {st1 : List Value} (hst1 : st1 = av.reverse ++ st) (q : ∀ (r : Option Value) (h' : AH), Q r h' → V X mt R Z (nx', sz', A.2.2.1 + mc, A.2.2.2 + ms) (pc + 3) L (r.toList ++ st) h') : V X mt R Z A pc L st1 h := by
  subst hst1
  intro p e s m args below meth c0 H locs ls hF hH hz hl
  have hF' := hF
  obtain ⟨hx, hb, -, -, hml, hown, -, hts, hK, -⟩ := hF'
  have hG : GoodIn BIG (va_wsS mt.1.cls idx cm.1 (wsM cm)) := goodIn_BIG (fun w hw => by
    rcases List.mem_append.mp hw with h1 | h1
    · simp only [List.mem_cons, List.not_mem_nil, or_false] at h1
      rcases h1 with rfl | rfl | rfl
      · exact hlk
      · exact hstc
      · exact hmt.2.2.2.2.2
    · exact wsM_good hmt w h1)
  have hst2 : ((st.map (tr X)).map fun v => v.category).sum ≤ 8 := by
    rw [List.map_map]
    have : ((fun v => Value.category v) ∘ tr X) = fun v => v.category := funext fun v => tr_cat
    rw [this]
    exact hst
  refine v_back (rest := st) hF hH hl hz hle (va_runS (As := av.map (tr X)) ⟨hx, hb, hml, hown, hts⟩ hM ⟨callB_of n hts (goodIn_BIG (wsM_good hmt)) rfl rfl rfl (hts _ hmt.2.2.2.2.2) (hts _ hlk) ⟨hmt.2.2.1.1, hmt.2.2.1.2, hmt.2.2.2.1⟩ ⟨hR.1, by have := hR.2; have := hmt.2.2.2.2.1; show 8 + (cm.2.2.1 + 11) + 64 * d ≤ _; omega⟩, hts _ hstc⟩ ⟨PcM.blind, fun U hU hW => PcM.at hF hH hz U hU hW⟩ rfl (by simpa using hn) hl.1 ?_ (lv_room hst2) hd hcs) q
  show (av.reverse ++ st).map (tr X) = _
  simp
theorem v_callSN {host : String} (hM : Mok X d cm av h A.1 A.2.1 nx' sz' mc ms Q) (hmt : MtOk cm n) (hlk : (mt.1.cls, idx, cm.1, host) ∈ NEST) (hstc : Cond.static cm.1 ∈ BIG) (hn : av.length = n) (hR : RO R (d + 1)) (hcs : A.2.2.1 + mc ≤ R.cells ∧ A.2.2.2 + ms ≤ R.slots) (hle : A.2.1 ≤ sz') (hst : (st.map fun v => v.category).sum ≤ 8)
    (hd : decode mt.2.1 pc = .ok (.invokestatic idx, 3)) {st1 : List Value} (hst1 : st1 = av.reverse ++ st) (q : ∀ (r : Option Value) (h' : AH), Q r h' → V X mt R Z (nx', sz', A.2.2.1 + mc, A.2.2.2 + ms) (pc + 3) L (r.toList ++ st) h') : V X mt R Z A pc L st1 h := by
  subst hst1
  intro p e s m args below meth c0 H locs ls hF hH hz hl
  have hF' := hF
  obtain ⟨hx, hb, -, -, hml, hown, -, hts, hK, -⟩ := hF'
  have hst2 : ((st.map (tr X)).map fun v => v.category).sum ≤ 8 := by
    rw [List.map_map]
    have : ((fun v => Value.category v) ∘ tr X) = fun v => v.category := funext fun v => tr_cat
    rw [this]
    exact hst
  refine v_back (rest := st) hF hH hl hz hle (va_runSN (As := av.map (tr X)) (host := host) ⟨hx, hb, hml, hown, hts⟩ hM ⟨va_cnB n hts (goodIn_BIG (wsM_good hmt)) rfl rfl rfl (hF.2.2.2.2.2.2.2.2.2.1.1 _ hlk) (hts _ hmt.2.2.2.2.2) ⟨hmt.2.2.1.1, hmt.2.2.1.2, hmt.2.2.2.1⟩ ⟨hR.1, by have := hR.2; have := hmt.2.2.2.2.1; show 8 + (cm.2.2.1 + 11) + 64 * d ≤ _; omega⟩, hts _ hstc, trivial⟩ ⟨PcM.blind, fun U hU hW => PcM.at hF hH hz U hU hW⟩ rfl (by simpa using hn) hl.1 ?_ (lv_room hst2) hd hcs) q
  show (av.reverse ++ st).map (tr X) = _
  simp
-- the same, told by the kind of answer, of methods that make nothing
def RI (P : Int32 → AH → Prop) : Option Value → AH → Prop := fun r h' => ∃ y, r = some (.int y) ∧ P y h'
def RJ (P : Int64 → AH → Prop) : Option Value → AH → Prop := fun r h' => ∃ y, r = some (.long y) ∧ P y h'
def RV (P : AH → Prop) : Option Value → AH → Prop := fun r h' => r = none ∧ P h'
variable {PI : Int32 → AH → Prop} {PL : Int64 → AH → Prop} {PV : AH → Prop} {h' : AH}
section CV
variable {k c N : Nat}
theorem v_cVI (hmt : MtOk cm n) (hlk : CLk mt.1.cls idx cm) (hin : Cond.instanceMethod cm.1 ∈ BIG) (hsel : Cond.selects cm.1.cls cm.1 cm.1 ∈ BIG) (hn : av.length = n) (hk : kd X k = (c, N)) (hc : ClOk c N) (hcn : ROf c = cm.1.cls) (hA : k < A.1) (hR : RO R (d + 1)) (hcs : A.2.2.1 ≤ R.cells ∧ A.2.2.2 ≤ R.slots) (hst : (st.map fun v => v.category).sum ≤ 8) (hd : decode mt.2.1 pc = .ok (.invokevirtual idx, 3)) {st1 : List Value} (hst1 : st1 = av.reverse ++ .ref k :: st) (hM : Mk X d cm (.ref k :: av) h A.1 A.2.1 (RI PI)) (q : ∀ (y : Int32) (h' : AH), PI y h' → V X mt R Z A (pc + 3) L (.int y :: st) h') : V X mt R Z A pc L st1 h :=
  v_callV hM hmt hlk hin hsel hn hk hc hcn hA hR hcs (Nat.le_refl _) hst hd hst1 (fun r h' hq => by obtain ⟨y, rfl, hp⟩ := hq; exact q y h' hp)
theorem v_cVL (hmt : MtOk cm n) (hlk : CLk mt.1.cls idx cm) (hin : Cond.instanceMethod cm.1 ∈ BIG) (hsel : Cond.selects cm.1.cls cm.1 cm.1 ∈ BIG) (hn : av.length = n) (hk : kd X k = (c, N)) (hc : ClOk c N) (hcn : ROf c = cm.1.cls) (hA : k < A.1) (hR : RO R (d + 1)) (hcs : A.2.2.1 ≤ R.cells ∧ A.2.2.2 ≤ R.slots) (hst : (st.map fun v => v.category).sum ≤ 8) (hd : decode mt.2.1 pc = .ok (.invokevirtual idx, 3)) {st1 : List Value} (hst1 : st1 = av.reverse ++ .ref k :: st) (hM : Mk X d cm (.ref k :: av) h A.1 A.2.1 (RJ PL)) (q : ∀ (y : Int64) (h' : AH), PL y h' → V X mt R Z A (pc + 3) L (.long y :: st) h') : V X mt R Z A pc L st1 h :=
  v_callV hM hmt hlk hin hsel hn hk hc hcn hA hR hcs (Nat.le_refl _) hst hd hst1 (fun r h' hq => by obtain ⟨y, rfl, hp⟩ := hq; exact q y h' hp)
theorem v_cVV (hmt : MtOk cm n) (hlk : CLk mt.1.cls idx cm) (hin : Cond.instanceMethod cm.1 ∈ BIG) (hsel : Cond.selects cm.1.cls cm.1 cm.1 ∈ BIG) (hn : av.length = n) (hk : kd X k = (c, N)) (hc : ClOk c N) (hcn : ROf c = cm.1.cls) (hA : k < A.1) (hR : RO R (d + 1)) (hcs : A.2.2.1 ≤ R.cells ∧ A.2.2.2 ≤ R.slots) (hst : (st.map fun v => v.category).sum ≤ 8) (hd : decode mt.2.1 pc = .ok (.invokevirtual idx, 3)) {st1 : List Value} (hst1 : st1 = av.reverse ++ .ref k :: st) (hM : Mk X d cm (.ref k :: av) h A.1 A.2.1 (RV PV)) (q : ∀ (h' : AH), PV h' → V X mt R Z A (pc + 3) L st h') : V X mt R Z A pc L st1 h :=
  v_callV hM hmt hlk hin hsel hn hk hc hcn hA hR hcs (Nat.le_refl _) hst hd hst1 (fun r h' hq => by obtain ⟨rfl, hp⟩ := hq; exact q h' hp)
theorem v_cSI (hmt : MtOk cm n) (hlk : CLk mt.1.cls idx cm) (hstc : Cond.static cm.1 ∈ BIG) (hn : av.length = n) (hR : RO R (d + 1)) (hcs : A.2.2.1 ≤ R.cells ∧ A.2.2.2 ≤ R.slots) (hst : (st.map fun v => v.category).sum ≤ 8) (hd : decode mt.2.1 pc = .ok (.invokestatic idx, 3)) {st1 : List Value} (hst1 : st1 = av.reverse ++ st) (hM : Mk X d cm av h A.1 A.2.1 (RI PI)) (q : ∀ (y : Int32) (h' : AH), PI y h' → V X mt R Z A (pc + 3) L (.int y :: st) h') : V X mt R Z A pc L st1 h :=
  v_callS hM hmt hlk hstc hn hR hcs (Nat.le_refl _) hst hd hst1 (fun r h' hq => by obtain ⟨y, rfl, hp⟩ := hq; exact q y h' hp)
theorem v_cSV (hmt : MtOk cm n) (hlk : CLk mt.1.cls idx cm) (hstc : Cond.static cm.1 ∈ BIG) (hn : av.length = n) (hR : RO R (d + 1)) (hcs : A.2.2.1 ≤ R.cells ∧ A.2.2.2 ≤ R.slots) (hst : (st.map fun v => v.category).sum ≤ 8) (hd : decode mt.2.1 pc = .ok (.invokestatic idx, 3)) {st1 : List Value} (hst1 : st1 = av.reverse ++ st) (hM : Mk X d cm av h A.1 A.2.1 (RV PV)) (q : ∀ (h' : AH), PV h' → V X mt R Z A (pc + 3) L st h') : V X mt R Z A pc L st1 h :=
  v_callS hM hmt hlk hstc hn hR hcs (Nat.le_refl _) hst hd hst1 (fun r h' hq => by obtain ⟨rfl, hp⟩ := hq; exact q h' hp)
theorem v_cNI {host : String} (hmt : MtOk cm n) (hlk : (mt.1.cls, idx, cm.1, host) ∈ NEST) (hstc : Cond.static cm.1 ∈ BIG) (hn : av.length = n) (hR : RO R (d + 1)) (hcs : A.2.2.1 ≤ R.cells ∧ A.2.2.2 ≤ R.slots) (hst : (st.map fun v => v.category).sum ≤ 8) (hd : decode mt.2.1 pc = .ok (.invokestatic idx, 3)) {st1 : List Value} (hst1 : st1 = av.reverse ++ st) (hM : Mk X d cm av h A.1 A.2.1 (RI PI)) (q : ∀ (y : Int32) (h' : AH), PI y h' → V X mt R Z A (pc + 3) L (.int y :: st) h') : V X mt R Z A pc L st1 h :=
  v_callSN hM hmt hlk hstc hn hR hcs (Nat.le_refl _) hst hd hst1 (fun r h' hq => by obtain ⟨y, rfl, hp⟩ := hq; exact q y h' hp)
end CV
end VC
