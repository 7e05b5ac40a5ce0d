/-! rows of rows: a word of the tables that no other word gives, carried by the end -/
theorem W_triv {p : Program} {l : Launch} {e : Env} {R : Room} {s : State} {m : MethodId} {args : Array Value} {below : List Frame} {meth : Method} {c : Code} {H : Heap} {locs : List Loc} {cells slots : Nat} {Q : State → Prop} {g : JFrame} (h : ∀ t, Q t) : W p l e R s m args below meth c H locs cells slots Q g := fun T _ _ => ⟨T.setTop g, Steps.refl _, h _⟩
/-- somebody has made a row of rows of ints -/
def AO (U : State) : Prop := (Cond.arrayOver (.array .int)).before #[] U = true
theorem AO.use {A : Array Value} {U : State} (h : AO U) : (Cond.arrayOver (.array .int)).before A U = true := h
theorem AO.moved {u U : State} (hal : u.vm.Alike U.vm) (h : AO u) : AO U := over_moved hal h
/-- ends that speak only where it is so -/
def ZA (Z : ZX) : ZX := fun args below s t => AO s → Z args below s t
section ZO
variable {X : CX} {mt : MT} {R : Room} {Z : ZX} {A : AX} {pc : Nat} {L : List (Option Value)} {st : List Value} {h : AH} {idx : Nat}
theorem v_ZA (q : V X mt R Z A pc L st h) : V X mt R (ZA Z) A pc L st h := by
  intro p e s m args below meth c0 H locs ls hF hH hz hl T hT XT
  obtain ⟨t, a, b⟩ := q p e s m args below meth c0 H locs ls hF hH hz hl T hT XT
  exact ⟨t, a, fun _ => b⟩
theorem v_mnaO {n k : Int32} {N K : Nat} (hd : decode mt.2.1 pc = .ok (.multianewarray idx 2, 4)) (hlk : Cond.classLink mt.1.cls idx "[[I" ∈ BIG) (harr : Cond.arrayClass .int ∈ BIG) (hn : ¬ n < 0) (hN : n.toNatClampNeg = N) (hk : ¬ k < 0) (hK0 : k.toNatClampNeg = K) (hN2 : N ≤ 1000) (hK2 : K ≤ 1000) (hko : kd X A.1 = (24, N)) (hki : ∀ i, i < N → kd X (A.1 + 1 + i) = (20, K)) (hlt : A.1 + N < 91) (hz0 : A.2.1 = X.2.1 + A.1) (hcs : A.2.2.1 + (1 + N) ≤ R.cells ∧ A.2.2.2 + (N + N * K) ≤ R.slots)
    (q : V X mt R (ZA Z) (A.1 + 1 + N, A.2.1 + 1 + N, A.2.2.1 + 1 + N, A.2.2.2 + N + N * K) (pc + 4) L (.ref A.1 :: st) (newM h A.1 N)) : V X mt R (ZA Z) A pc L (.int k :: .int n :: st) h := by
  subst hN
  subst hK0
  intro p e s m args below meth c0 H locs ls hF hH hz hl
  by_cases ao : AO s
  case neg => exact W_triv (fun t z => absurd z ao)
  have hF' := hF
  obtain ⟨hx, hb, -, -, hml, hown, -, hts, hK, hSV, hSH, -⟩ := hF'
  intro T hT XT
  obtain ⟨vm₁, cA, comp, hW, fA, fC, hO, hI, X', step⟩ := XT.multianewarray2F hx hown (index := idx) (ty := .int) (hts _ hlk) (AO.use ao) (hts _ harr) (g := F0 m pc ls (.int k :: .int n :: st.map (tr X))) rfl (by rw [hb]; exact hd) rfl hn hk (by omega) (by show _ * 4 ≤ _; omega) (by omega) rfl rfl hcs.1 hcs.2
  have hcA : cA = X.2.2.2.1 24 := Option.some.inj (fA.symm.trans (hK.2 4 _ rfl).2)
  have hcI : comp = X.2.2.2.1 20 := Option.some.inj (fC.symm.trans (hK.2 0 _ rfl).2)
  generalize hNe : n.toNatClampNeg = N at *
  generalize hKe : k.toNatClampNeg = K at *
  generalize hFe : Jvm.Free.Multi.fill (T.setVm vm₁) cA comp N K (defaultValue .int) N = F at X' step
  have hTh : (T.setVm vm₁).heap = H := hT
  obtain ⟨f1, f2, -, -⟩ := Jvm.Free.Multi.fill_facts (T.setVm vm₁) cA comp N K (defaultValue .int) N
  rw [hFe, hTh] at f1 f2
  have hold : ∀ x : Nat, x < H.size → F.heap[x]? = H[x]? := fun x hx => by
    have := Jvm.Free.Multi.fill_old (T.setVm vm₁) cA comp N K (defaultValue .int) (a := x) (by rw [hTh]; exact hx) N
    rw [hFe, hTh] at this
    exact this
  have hrow : ∀ j : Nat, j < N → F.heap[H.size + 1 + j]? = some (Jvm.Free.Multi.innerC comp K (defaultValue .int)) := fun j hj => by
    have := Jvm.Free.Multi.fill_inner (T.setVm vm₁) cA comp N K (defaultValue .int) N j hj
    rw [hFe, hTh] at this
    exact this
  have eh : H.size = ad X A.1 := by rw [ad_own (by omega), hz, hz0]
  have ehn : H.size = X.2.1 + A.1 := by rw [hz, hz0]
  have z1 : F.heap.size = H.size + 1 + N := by omega
  rw [vr_outer] at f2
  have g1 : ∀ a, A.1 ≤ a → a ≤ A.1 + N → (newM h A.1 N).1 a = fun _ => 0 := fun a h1 h2 => if_pos ⟨h1, h2⟩
  have hP1 : va_P X.2.2.1 vwCl (wsL X (newM h A.1 N) (A.1 + 1 + N)) F.heap := by
    intro i q1 hq1
    have li : i < A.1 + 1 + N := by simpa [wsL] using (List.getElem?_eq_some_iff.mp hq1).1
    rw [wsL_at li] at hq1
    cases hq1
    by_cases e : i < A.1
    · have h1 := hH.1 i _ (wsL_at e)
      have e2 : ent X (newM h A.1 N) i = ent X h i := entA_congr (if_neg (by omega)) rfl ((if_neg (by omega)).trans (if_neg (by omega)))
      rw [e2]
      exact va_at.kept h1 (hold _ h1.lt)
    · by_cases e0 : i = A.1
      · subst e0
        unfold ent
        rw [hko]
        show F.heap[_]? = some (vp_cell _ (N, .inr (.inr (.inr (.inr (fun j => ((newM h A.1 N).2.2 A.1 j).map (ad X)))))))
        rw [vp_cell_q, ← ehn, f2, hcA]
        congr 2
        funext j
        have g3 : (newM h A.1 N).2.2 A.1 = fun i => if i < N then some (A.1 + 1 + i) else none := if_pos rfl
        rw [g3]
        by_cases hj : j < N
        · simp only [hj, if_true, Option.map_some]
          rw [ad_own (by omega), ehn, Nat.add_assoc X.2.1 A.1 1, Nat.add_assoc X.2.1 (A.1 + 1) j]
        · simp only [hj, if_false, Option.map_none]
      · obtain ⟨j, rfl⟩ : ∃ j, i = A.1 + 1 + j := ⟨i - (A.1 + 1), by omega⟩
        have hj : j < N := by omega
        unfold ent
        rw [hki j hj]
        show F.heap[_]? = some (vp_cell _ (K, .inl ((newM h A.1 N).1 (A.1 + 1 + j))))
        rw [g1 _ (by omega) (by omega), vp_cell_i, show X.2.1 + (A.1 + 1 + j) = H.size + 1 + j by omega, hrow j hj, ← arrV_new, hcI]
        rfl
  obtain ⟨t, a1, b1⟩ := q p e s m args below meth c0 F.heap locs ls hF ⟨hP1, ⟨Nat.le_trans hH.2.1 (by omega), fun x h1 h2 => (hold x (Nat.lt_of_lt_of_le h1 hH.2.1)).trans (hH.2.2.1 x h1 h2), hH.2.2.2⟩⟩ (by show _ = A.2.1 + 1 + N; omega) hl F rfl X'
  refine ⟨t, step t ?_, b1⟩
  have q3 : (F0 m pc ls (.int k :: .int n :: st.map (tr X))).pc + 4 = pc + 4 := rfl
  rw [hT, eh]
  exact a1

theorem k_mna {n k : Int32} {N K nx mc ms nx' mc' ms' idx : Nat} (hd : decode mt.2.1 pc = .ok (.multianewarray idx 2, 4)) (hlk : Cond.classLink mt.1.cls idx "[[I" ∈ BIG) (harr : Cond.arrayClass .int ∈ BIG) (hn : ¬ n < 0) (hN : n.toNatClampNeg = N) (hk : ¬ k < 0) (hK0 : k.toNatClampNeg = K) (hN2 : N ≤ 1000) (hK2 : K ≤ 1000) (hko : kd X nx = (24, N)) (hki : ∀ i, i < N → kd X (nx + 1 + i) = (20, K)) (hlt : nx + N < 91) (e1 : nx + 1 + N = nx') (e2 : mc + 1 + N = mc') (e3 : ms + N + N * K = ms') (hcs : mc' ≤ R.cells ∧ ms' ≤ R.slots)
    (q : V X mt R (ZA Z) (nx', X.2.1 + nx', mc', ms') (pc + 4) L (.ref nx :: st) (newM h nx N)) : V X mt R (ZA Z) (nx, X.2.1 + nx, mc, ms) pc L (.int k :: .int n :: st) h := by
  subst e1 e2 e3
  refine v_mnaO hd hlk harr hn hN hk hK0 hN2 hK2 hko hki hlt rfl ⟨by rw [← Nat.add_assoc]; exact hcs.1, by rw [← Nat.add_assoc]; exact hcs.2⟩ ?_
  have e : X.2.1 + (nx + 1 + N) = X.2.1 + nx + 1 + N := by omega
  rw [e] at q
  exact q
/-- a contract of a method that makes rows of rows -/
def MokO (X : CX) (d : Nat) (mt : MT) (av : List Value) (h : AH) (nx sz nx' sz' mc ms : Nat) (Q : Option Value → AH → Prop) : Prop :=
  Met X.1 mt.1 (wsM mt) (rm d mc ms) (fun v U => PcM X av h nx sz v U ∧ AO U) (QcM X Q nx' sz') mc ms (Own X)
theorem Mok.o {d : Nat} {av : List Value} {nx sz nx' sz' mc ms : Nat} {Q : Option Value → AH → Prop} (m : Mok X d mt av h nx sz nx' sz' mc ms Q) : MokO X d mt av h nx sz nx' sz' mc ms Q := fun p e ha hc hk s mth args below hfr hap hP hK => m p e ha hc hk s mth args below hfr hap hP.1 hK
theorem Wq_mono {p : Program} {l : Launch} {e : Env} {R : Room} {s : State} {m : MethodId} {args : Array Value} {below : List Frame} {meth : Method} {c : Code} {H : Heap} {locs : List Loc} {cells slots : Nat} {Q Q' : State → Prop} {g : JFrame} (h : ∀ t, Q t → Q' t) (w : W p l e R s m args below meth c H locs cells slots Q g) : W p l e R s m args below meth c H locs cells slots Q' g := fun T hT XT => by
  obtain ⟨t, a, b⟩ := w T hT XT
  exact ⟨t, a, h t b⟩
theorem MokO.ofV {d n : Nat} {av : List Value} {nx sz nx' sz' mc ms : Nat} {Q : Option Value → AH → Prop} (hmt : MtOk mt n) (hlen : (ent0 av).length ≤ mt.2.2.1) {L : List (Option Value)} (hL : lvLe L (ent0 av)) (q : V X mt (rm d mc ms) (ZA (ZM X Q nx' sz' mc ms)) (nx, sz, 0, 0) 0 L [] h) : MokO X d mt av h nx sz nx' sz' mc ms Q := by
  obtain ⟨hpl, hcd, hnh, hds, hml40, hini⟩ := hmt
  refine Met.ofW (cc := mt.2.1) (maxL := mt.2.2.1) (ret := mt.2.2.2) hpl rfl ?_
  intro p e s m args below meth c s₁ B hml hv
  obtain ⟨⟨rfl, hsz, hb0, hP, hK, hSV, hSH⟩, ao⟩ := hv
  have hts := atoms_spec (ws := wsM mt) B.pre
  have hF : Fr X mt p s m (av.map (tr X)).toArray meth c := ⟨B.exec, B.bytes, B.returns, B.notSynchronized, hml, findClass_of_methodNamed B.named, (name_of_methodNamed B.named B.method).1, fun w hw => hts w (List.mem_cons_of_mem _ hw), hK, hSV, hSH, by rw [hsz]; exact hb0⟩
  rw [lg_entry_eq]
  have hl0 := lv_entry (av.map (tr X)) (n := mt.2.2.1) (by rw [lg_sl_len]; exact hlen)
  generalize (lg_sl (av.map (tr X)) ++ List.replicate (mt.2.2.1 - (lg_sl (av.map (tr X))).length) Slot.unset).toArray = ls at hl0 ⊢
  refine Wq_mono (fun t z => z ao) (q p e s m _ below meth c s.heap [] ls hF ⟨hP, va_S.rf⟩ hsz (lvR_weak (L := ent0 av) ?_ (lvLe_at _ _ hL)))
  refine ⟨hl0.1, hl0.2.1, fun z hz => ?_⟩
  obtain ⟨j, w⟩ := z
  obtain ⟨-, h2⟩ := (lvl_in _ 0 j).mp hz
  rw [Nat.sub_zero, List.getElem?_map] at h2
  cases hL : (ent0 av)[j]? with
  | none => rw [hL] at h2; cases h2
  | some o =>
    cases o with
    | none => rw [hL] at h2; cases h2
    | some v =>
      rw [hL] at h2
      have e2 : tr X v = w := by simpa using h2
      subst e2
      have := ent0_args (X := X) av 0 j v hL
      rw [Nat.zero_add] at this
      exact hl0.2.2 _ this
theorem PcO.blind {av : List Value} {nx sz : Nat} : FrameBlind (fun v U => PcM X av h nx sz v U ∧ AO U) := fun a U g mk hq => ⟨PcM.blind a U g mk hq.1, AO.moved (u := U) (U := U.calling g mk a) (Vm.Alike.refl U.vm) hq.2⟩
theorem v_callIO {k d n : Nat} {cm : MT} {av : List Value} {Q : Option Value → AH → Prop} {nx' sz' mc ms : Nat} (hM : MokO X d cm (.ref k :: av) h A.1 A.2.1 nx' sz' mc ms Q) (hmt : MtOk cm n) (hlk : CLk mt.1.cls idx cm) (hin : Cond.instanceMethod cm.1 ∈ BIG) (hnm : cm.1.name = "<init>") (hret : cm.2.2.2 = none) (hn : av.length = n) (hR : RO R (d + 1)) (hcs : A.2.2.1 + mc ≤ R.cells ∧ A.2.2.2 + ms ≤ R.slots) (hle : A.2.1 ≤ sz') (hst : (st.map fun v => v.category).sum ≤ 8)
    (hd : decode mt.2.1 pc = .ok (.invokespecial idx, 3)) {st1 : List Value} (hst1 : st1 = av.reverse ++ .ref k :: st) (q : ∀ (r : Option Value) (h' : AH), Q r h' → V X mt R (ZA Z) (nx', sz', A.2.2.1 + mc, A.2.2.2 + ms) (pc + 3) L (r.toList ++ st) h') : V X mt R (ZA Z) A pc L st1 h := by
  subst hst1
  intro p e s m args below meth c0 H locs ls hF hH hz hl
  by_cases ao : AO s
  case neg => exact W_triv (fun t z => absurd z ao)
  have hF' := hF
  obtain ⟨hx, hb, -, -, hml, hown, -, hts, hK, -⟩ := hF'
  have hw : wsM cm = Cond.code cm.1 cm.2.1 cm.2.2.1 none :: BIG := by unfold wsM; rw [hret]
  refine v_back (rest := st) hF hH hl hz hle (va_runI (As := av.map (tr X)) (b := ad X k) ⟨hx, hb, hml, hown, hts⟩ hM (cwI n hts (goodIn_BIG (wsM_good hmt)) hw rfl rfl (hts _ hmt.2.2.2.2.2) (hts _ hlk) (hts _ hin) hnm ⟨hmt.2.2.1.1, hmt.2.2.1.2, hmt.2.2.2.1⟩ ⟨hR.1, by have := hR.2; have := hmt.2.2.2.2.1; show 8 + (cm.2.2.1 + 11) + 64 * d ≤ _; omega⟩) ⟨PcO.blind, fun U hU hW => ⟨PcM.at (av := .ref k :: av) hF hH hz U hU hW, ao.moved hW.alike⟩⟩ rfl (by simpa using hn) hl.1 ?_ (lv_room (st_cat hst)) hd hcs) q
  show (av.reverse ++ .ref k :: st).map (tr X) = _
  simp [tr]
theorem v_callINO {k d n : Nat} {cm : MT} {av : List Value} {Q : Option Value → AH → Prop} {nx' sz' mc ms : Nat} {host : String} (hM : MokO X d cm (.ref k :: av) h A.1 A.2.1 nx' sz' mc ms Q) (hmt : MtOk cm n) (hlk : (mt.1.cls, idx, cm.1, host) ∈ NEST) (hin : Cond.instanceMethod cm.1 ∈ BIG) (hnm : cm.1.name = "<init>") (hret : cm.2.2.2 = none) (hn : av.length = n) (hR : RO R (d + 1)) (hcs : A.2.2.1 + mc ≤ R.cells ∧ A.2.2.2 + ms ≤ R.slots) (hle : A.2.1 ≤ sz') (hst : (st.map fun v => v.category).sum ≤ 8)
    (hd : decode mt.2.1 pc = .ok (.invokespecial idx, 3)) {st1 : List Value} (hst1 : st1 = av.reverse ++ .ref k :: st) (q : ∀ (r : Option Value) (h' : AH), Q r h' → V X mt R (ZA Z) (nx', sz', A.2.2.1 + mc, A.2.2.2 + ms) (pc + 3) L (r.toList ++ st) h') : V X mt R (ZA Z) A pc L st1 h := by
  subst hst1
  intro p e s m args below meth c0 H locs ls hF hH hz hl
  by_cases ao : AO s
  case neg => exact W_triv (fun t z => absurd z ao)
  have hF' := hF
  obtain ⟨hx, hb, -, -, hml, hown, -, hts, hK, -⟩ := hF'
  have hw : wsM cm = Cond.code cm.1 cm.2.1 cm.2.2.1 none :: BIG := by unfold wsM; rw [hret]
  refine v_back (rest := st) hF hH hl hz hle (va_runIN (As := av.map (tr X)) (b := ad X k) (host := host) ⟨hx, hb, hml, hown, hts⟩ hM ⟨va_cnB n hts (goodIn_BIG (wsM_good hmt)) hw rfl rfl (hF.2.2.2.2.2.2.2.2.2.1.1 _ hlk) (hts _ hmt.2.2.2.2.2) ⟨hmt.2.2.1.1, hmt.2.2.1.2, hmt.2.2.2.1⟩ ⟨hR.1, by have := hR.2; have := hmt.2.2.2.2.1; show 8 + (cm.2.2.1 + 11) + 64 * d ≤ _; omega⟩, hnm, hts _ hin⟩ ⟨PcO.blind, fun U hU hW => ⟨PcM.at (av := .ref k :: av) hF hH hz U hU hW, ao.moved hW.alike⟩⟩ rfl (by simpa using hn) hl.1 ?_ (lv_room (st_cat hst)) hd hcs) q
  show (av.reverse ++ .ref k :: st).map (tr X) = _
  simp [tr]
/-- a constructor's contract: from nx cells to nx' -/
abbrev KiO (X : CX) (d : Nat) (mt : MT) (av : List Value) (h : AH) (nx nx' mc ms : Nat) (Q : Option Value → AH → Prop) : Prop := MokO X d mt av h nx (X.2.1 + nx) nx' (X.2.1 + nx') mc ms Q
theorem k_callIO {k d n idx nx nx' mc ms mc0 ms0 mc1 ms1 : Nat} {cm : MT} {av : List Value} {P : AH → Prop} (hd : decode mt.2.1 pc = .ok (.invokespecial idx, 3)) (hmt : MtOk cm n) (hlk : CLk mt.1.cls idx cm) (hin : Cond.instanceMethod cm.1 ∈ BIG) (hnm : cm.1.name = "<init>") (hret : cm.2.2.2 = none) (hn : av.length = n) (hM : KiO X d cm (.ref k :: av) h nx nx' mc ms (RV P)) (hR : RO R (d + 1)) (e1 : mc0 + mc = mc1) (e2 : ms0 + ms = ms1) (hcs : mc1 ≤ R.cells ∧ ms1 ≤ R.slots) (hle : nx ≤ nx') (hst : (st.map fun v => v.category).sum ≤ 8) {st1 : List Value} (hst1 : st1 = av.reverse ++ .ref k :: st)
    (q : ∀ g, P g → V X mt R (ZA Z) (nx', X.2.1 + nx', mc1, ms1) (pc + 3) L st g) : V X mt R (ZA Z) (nx, X.2.1 + nx, mc0, ms0) pc L st1 h := by
  subst e1 e2
  exact v_callIO hM hmt hlk hin hnm hret hn hR hcs (Nat.add_le_add_left hle _) hst hd hst1 (fun r h' z => by
    obtain ⟨rfl, p⟩ := z
    exact q h' p)
theorem k_callINO {k d n idx nx nx' mc ms mc0 ms0 mc1 ms1 : Nat} {cm : MT} {av : List Value} {host : String} {P : AH → Prop} (hd : decode mt.2.1 pc = .ok (.invokespecial idx, 3)) (hmt : MtOk cm n) (hlk : (mt.1.cls, idx, cm.1, host) ∈ NEST) (hin : Cond.instanceMethod cm.1 ∈ BIG) (hnm : cm.1.name = "<init>") (hret : cm.2.2.2 = none) (hn : av.length = n) (hM : KiO X d cm (.ref k :: av) h nx nx' mc ms (RV P)) (hR : RO R (d + 1)) (e1 : mc0 + mc = mc1) (e2 : ms0 + ms = ms1) (hcs : mc1 ≤ R.cells ∧ ms1 ≤ R.slots) (hle : nx ≤ nx') (hst : (st.map fun v => v.category).sum ≤ 8) {st1 : List Value} (hst1 : st1 = av.reverse ++ .ref k :: st)
    (q : ∀ g, P g → V X mt R (ZA Z) (nx', X.2.1 + nx', mc1, ms1) (pc + 3) L st g) : V X mt R (ZA Z) (nx, X.2.1 + nx, mc0, ms0) pc L st1 h := by
  subst e1 e2
  exact v_callINO hM hmt hlk hin hnm hret hn hR hcs (Nat.add_le_add_left hle _) hst hd hst1 (fun r h' z => by
    obtain ⟨rfl, p⟩ := z
    exact q h' p)
end ZO
