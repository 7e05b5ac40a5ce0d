/-! what the law's frame knows beside the tables: the script, the words of a throw, its table of handlers -/
def cgL : List Cond := cg_A "SevenTown" 191 "java/util/NoSuchElementException" 13 prog_31_method_4_code "java/lang/RuntimeException" ["java/lang/Exception"]
theorem cgL_ot : ∀ w ∈ Cond.classLink "SevenTown" 187 "java/util/NoSuchElementException" :: Cond.initialized "java/util/NoSuchElementException" :: cgL.filter vx_no, vx_ot w = true := by decide +kernel
theorem cgL_tb : ∀ w ∈ (cgL.filter vx_no).filter goodWord, w ∈ lw_tbl := by decide +kernel
/-- the words of a throw that warming keeps, though it isn't said of them -/
def cgN : List Cond := [.declares (Bundle.initS "java/lang/RuntimeException"), .declares (Bundle.initS "java/lang/Exception"), .declares (Bundle.initS Bundle.tN), .castable "java/util/NoSuchElementException" "java/util/NoSuchElementException"]
theorem cgL_N : ∀ w ∈ (cgL.filter vx_no).filter (fun w => !goodWord w), w ∈ cgN := by decide +kernel
theorem cgN_tb : ∀ w ∈ cgN, w ∈ lw_tbl := by decide +kernel
theorem cgN_moved {args a' : Array Value} {s U : State} (hal : s.vm.Alike U.vm) (h : ∀ w ∈ cgN, w.before args s = true) : ∀ w ∈ cgN, w.before a' U = true := by
  intro w hw
  have h9 := h w hw
  simp only [cgN, List.mem_cons, List.not_mem_nil, or_false] at hw
  rcases hw with rfl | rfl | rfl | rfl
  · exact cg_decl hal h9
  · exact cg_decl hal h9
  · exact cg_decl hal h9
  · exact cg_cast hal h9
def TF (X : CX) (U : State) (H : Heap) : Prop := (∀ w ∈ cgN, w.before #[] U = true) ∧ vx_Zq Bundle.tN "UNASSIGNED_STACK" Bundle.steD (Own X) U H ∧ vx_Zq Bundle.tN "SUPPRESSED_SENTINEL" Bundle.listD (Own X) U H
theorem TF.moved {X : CX} {u U : State} {H : Heap} (hal : u.vm.Alike U.vm) (h : TF X u H) : TF X U H := ⟨cgN_moved hal h.1, h.2.1.moved hal, h.2.2.moved hal⟩
theorem TF.kept {X : CX} {U : State} {H H1 : Heap} (h : TF X U H) (hq : ∀ a : Nat, a < H.size → ¬ Own X a → H1[a]? = H[a]?) : TF X U H1 := ⟨h.1, h.2.1.kept hq, h.2.2.kept hq⟩
/-- the words of the throw all hold -/
theorem TF.words {X : CX} {U : State} {H : Heap} {args : Array Value} (h : TF X U H) (hb : ∀ w ∈ BIG, w.before args U = true) : ∀ w ∈ cgL.filter vx_no, w.before args U = true := by
  intro w hw
  by_cases g : goodWord w = true
  · exact hb w (BIG_in (cgL_tb w (List.mem_filter.mpr ⟨hw, g⟩)) g)
  · have g2 : (!goodWord w) = true := by
      cases e : goodWord w
      · rfl
      · exact absurd e g
    exact cgN_moved (Vm.Alike.refl U.vm) h.1 w (cgL_N w (List.mem_filter.mpr ⟨hw, g2⟩))
/-- the script of Ln ints -/
def SF (X : CX) (Ln : Nat) (xs : Nat → Int32) (U : State) (H : Heap) : Prop := va_X (X.2.2.2.2.1 600) Ln xs U H ∧ X.2.2.2.2.1 600 < X.2.1 ∧ TF X U H
theorem SF.moved {X : CX} {Ln : Nat} {xs : Nat → Int32} {u U : State} {H : Heap} (hal : u.vm.Alike U.vm) (h : SF X Ln xs u H) : SF X Ln xs U H := ⟨h.1.moved hal, h.2.1, h.2.2.moved hal⟩
theorem SF.kept {X : CX} {Ln : Nat} {xs : Nat → Int32} {U : State} {H H1 : Heap} (h : SF X Ln xs U H) (hq : ∀ a : Nat, a < H.size → ¬ Own X a → H1[a]? = H[a]?) : SF X Ln xs U H1 := by
  obtain ⟨h1, h2, h3⟩ := h
  have hlt : X.2.2.2.2.1 600 < H.size := by
    obtain ⟨scr, e, -⟩ := h1
    exact (Array.getElem?_eq_some_iff.mp e).1
  exact ⟨h1.kept (hq _ hlt (Nat.not_le.mpr h2)), h2, h3.kept hq⟩
/-- the handlers of the method that begins at s -/
def EF (tb : List ExceptionTableEntry) (s : State) : Prop := ∀ (m : MethodId) (a : Array Value) (b : List Frame) (meth : Method) (c : Code), s.frames = .invoking m a :: b → s.vm.method? m = some meth → meth.code = some c → c.exceptionTable.toList = tb
theorem EF.use {p : Program} {l : Launch} {e : Env} {R : Room} {s : State} {m : MethodId} {args : Array Value} {below : List Frame} {meth : Method} {c : Code} {T : State} {locs : List Loc} {cells slots : Nat} {tb : List ExceptionTableEntry} (h : EF tb s) (X : Stand p l e R s m args below meth c T locs cells slots) : c.exceptionTable.toList = tb := h m args below meth c X.frames X.method X.code
theorem EF.of {p : Program} {l : Launch} {e : Env} {R : Room} {s : State} {m : MethodId} {args : Array Value} {below : List Frame} {meth : Method} {c : Code} {T : State} {locs : List Loc} {cells slots : Nat} {tb : List ExceptionTableEntry} (X : Stand p l e R s m args below meth c T locs cells slots) (h : c.exceptionTable.toList = tb) : EF tb s := fun m' a b meth' c' h1 h2 h3 => by
  have e1 := X.frames.symm.trans h1
  cases e1
  cases Option.some.inj (X.method.symm.trans h2)
  cases Option.some.inj (X.code.symm.trans h3)
  exact h
/-- ends that say nothing where these facts fail -/
def Vac (X : CX) (Ln : Nat) (xs : Nat → Int32) (Z : ZX) : Prop := ∀ args below s t, ¬ SF X Ln xs s s.heap → Z args below s t
def ZF (X : CX) (Ln : Nat) (xs : Nat → Int32) (Z : ZX) : ZX := fun args below s t => SF X Ln xs s s.heap → Z args below s t
def ZE (tb : List ExceptionTableEntry) (Z : ZX) : ZX := fun args below s t => EF tb s → Z args below s t
section VS
variable {X : CX} {mt : MT} {R : Room} {Z : ZX} {A : AX} {pc : Nat} {L : List (Option Value)} {st : List Value} {h : AH} {idx Ln : Nat} {xs : Nat → Int32}
theorem Vac.f : Vac X Ln xs (ZF X Ln xs Z) := fun args below s t n z => absurd z n
theorem Vac.a (h : Vac X Ln xs Z) : Vac X Ln xs (ZA Z) := fun args below s t n _ => h args below s t n
theorem Vac.e {tb : List ExceptionTableEntry} (h : Vac X Ln xs Z) : Vac X Ln xs (ZE tb Z) := fun args below s t n _ => h args below s t n
theorem v_ZF (q : V X mt R Z A pc L st h) : V X mt R (ZF X Ln xs Z) A pc L st h := by
  intro p e s m args below meth c0 H locs ls hF hH hz hl T hT XT
  obtain ⟨t, a, b⟩ := q p e s m args below meth c0 H locs ls hF hH hz hl T hT XT
  exact ⟨t, a, fun _ => b⟩
theorem v_ZE {tb : List ExceptionTableEntry} (q : V X mt R Z A pc L st h) : V X mt R (ZE tb Z) A pc L st h := by
  intro p e s m args below meth c0 H locs ls hF hH hz hl T hT XT
  obtain ⟨t, a, b⟩ := q p e s m args below meth c0 H locs ls hF hH hz hl T hT XT
  exact ⟨t, a, fun _ => b⟩
theorem ad_b : ad X 10600 = X.2.2.2.2.1 600 := rfl
theorem v_slen (hZ : Vac X Ln xs Z) (hd : decode mt.2.1 pc = .ok (.arraylength, 1)) (q : V X mt R Z A (pc + 1) L (.int (Int32.ofNat Ln) :: st) h) : V X mt R Z A pc L (.ref 10600 :: st) h := by
  intro p e s m args below meth c0 H locs ls hF hH hz hl
  by_cases sf : SF X Ln xs s s.heap
  case neg => exact W_triv (fun t => hZ _ _ _ _ sf)
  obtain ⟨hX, hb, -⟩ := sf
  have hlt : X.2.2.2.2.1 600 < s.heap.size := by
    obtain ⟨scr, e, -⟩ := hX
    exact (Array.getElem?_eq_some_iff.mp e).1
  exact va_slen hF.1 hF.2.1 hX hlt (Nat.not_le.mpr hb) hH.2 hd (q p e s m args below meth c0 H locs ls hF hH hz hl)
theorem v_sld {i : Int32} (hZ : Vac X Ln xs Z) (hd : decode mt.2.1 pc = .ok (.iaload, 1)) (hin : vp_in i Ln) (q : V X mt R Z A (pc + 1) L (.int (xs i.toNatClampNeg) :: st) h) : V X mt R Z A pc L (.int i :: .ref 10600 :: st) h := by
  intro p e s m args below meth c0 H locs ls hF hH hz hl
  by_cases sf : SF X Ln xs s s.heap
  case neg => exact W_triv (fun t => hZ _ _ _ _ sf)
  obtain ⟨hX, hb, -⟩ := sf
  have hlt : X.2.2.2.2.1 600 < s.heap.size := by
    obtain ⟨scr, e, -⟩ := hX
    exact (Array.getElem?_eq_some_iff.mp e).1
  exact va_sld hF.1 hF.2.1 hX hlt (Nat.not_le.mpr hb) hH.2 hin hd (q p e s m args below meth c0 H locs ls hF hH hz hl)
/-- a contract that knows them too -/
def MokF (X : CX) (Ln : Nat) (xs : Nat → Int32) (d : Nat) (mt : MT) (av : List Value) (h : AH) (nx sz nx' sz' mc ms : Nat) (Q : Option Value → AH → Prop) : Prop :=
  Met X.1 mt.1 (wsM mt) (rm d mc ms) (fun v U => PcM X av h nx sz v U ∧ SF X Ln xs U U.heap) (QcM X Q nx' sz') mc ms (Own X)
/-- the entry of a method, told in V -/
theorem ent_V {p : Program} {e : Env} {s s₁ : State} {m : MethodId} {below : List Frame} {meth : Method} {c : Code} {d mc ms nx sz : Nat} {av : List Value} {ws : List Cond} {args : Array Value} (hws : ∀ w ∈ BIG, w ∈ ws) (B : BodyLoose p X.1 mt.1 (headSpec ws (rm d mc ms)) mt.2.1 mt.2.2.1 mt.2.2.2 e s m args below meth c s₁) (hml : c.maxLocals = mt.2.2.1) (hP : PcM X av h nx sz args s) (hlen : (ent0 av).length ≤ mt.2.2.1) {L : List (Option Value)} (hL : lvLe L (ent0 av)) (q : V X mt (rm d mc ms) Z (nx, sz, 0, 0) 0 L [] h) :
    W p X.1 e (rm d mc ms) s m args below meth c s.heap [] 0 0 (Z args below s) (entryFrame m args mt.2.2.1) := by
  obtain ⟨rfl, hsz, hb0, hP, hK, hSV, hSH⟩ := hP
  have hts := atoms_spec (ws := ws) B.pre
  have hF : Fr X mt p s m (av.map (tr X)).toArray meth c := ⟨B.exec, B.bytes, B.returns, B.notSynchronized, hml, findClass_of_methodNamed B.named, (name_of_methodNamed B.named B.method).1, fun w hw => hts w (hws w hw), hK, hSV, hSH, by rw [hsz]; exact hb0⟩
  rw [lg_entry_eq]
  have hl0 := lv_entry (av.map (tr X)) (n := mt.2.2.1) (by rw [lg_sl_len]; exact hlen)
  generalize (lg_sl (av.map (tr X)) ++ List.replicate (mt.2.2.1 - (lg_sl (av.map (tr X))).length) Slot.unset).toArray = ls at hl0 ⊢
  refine q p e s m _ below meth c s.heap [] ls hF ⟨hP, va_S.rf⟩ hsz (lvR_weak (L := ent0 av) ?_ (lvLe_at _ _ hL))
  refine ⟨hl0.1, hl0.2.1, fun z hz => ?_⟩
  obtain ⟨j, w⟩ := z
  obtain ⟨-, h2⟩ := (lvl_in _ 0 j).mp hz
  rw [Nat.sub_zero, List.getElem?_map] at h2
  cases hL : (ent0 av)[j]? with
  | none => rw [hL] at h2; cases h2
  | some o =>
    cases o with
    | none => rw [hL] at h2; cases h2
    | some v =>
      rw [hL] at h2
      have e2 : tr X v = w := by simpa using h2
      subst e2
      have := ent0_args (X := X) av 0 j v hL
      rw [Nat.zero_add] at this
      exact hl0.2.2 _ this
theorem MokF.ofV {d n : Nat} {av : List Value} {nx sz nx' sz' mc ms : Nat} {Q : Option Value → AH → Prop} (hmt : MtOk mt n) (hlen : (ent0 av).length ≤ mt.2.2.1) {L : List (Option Value)} (hL : lvLe L (ent0 av)) (q : V X mt (rm d mc ms) (ZF X Ln xs (ZM X Q nx' sz' mc ms)) (nx, sz, 0, 0) 0 L [] h) : MokF X Ln xs d mt av h nx sz nx' sz' mc ms Q := by
  refine Met.ofW (cc := mt.2.1) (maxL := mt.2.2.1) (ret := mt.2.2.2) hmt.1 rfl ?_
  intro p e s m args below meth c s₁ B hml hv
  exact Wq_mono (fun t z => z hv.2) (ent_V (fun w hw => List.mem_cons_of_mem _ hw) B hml hv.1 hlen hL q)
theorem PcF.blind {av : List Value} {nx sz : Nat} : FrameBlind (fun v U => PcM X av h nx sz v U ∧ SF X Ln xs U U.heap) := fun a U g mk hq => ⟨PcM.blind a U g mk hq.1, SF.moved (u := U) (U := U.calling g mk a) (Vm.Alike.refl U.vm) hq.2⟩
theorem SF.at {p : Program} {s : State} {m : MethodId} {args : Array Value} {meth : Method} {c0 : Code} {H : Heap} {locs : List Loc} (sf : SF X Ln xs s s.heap) (hH : Hp X h A.1 s H locs) (U : State) (hU : U.heap = H) (hW : s.WarmedH U.vm) : SF X Ln xs U U.heap := by
  rw [hU]
  exact (sf.moved hW.alike).kept hH.2.2.1
theorem v_callSF {cm : MT} {d n : Nat} {av : List Value} {nx' sz' mc ms : Nat} {Q : Option Value → AH → Prop} (hZ : Vac X Ln xs Z) (hM : MokF X Ln xs d cm av h A.1 A.2.1 nx' sz' mc ms Q) (hmt : MtOk cm n) (hlk : CLk mt.1.cls idx cm) (hstc : Cond.static cm.1 ∈ BIG) (hn : av.length = n) (hR : RO R (d + 1)) (hcs : A.2.2.1 + mc ≤ R.cells ∧ A.2.2.2 + ms ≤ R.slots) (hle : A.2.1 ≤ sz') (hst : (st.map fun v => v.category).sum ≤ 8)
    (hd : decode mt.2.1 pc = .ok (.invokestatic idx, 3)) {st1 : List Value} (hst1 : st1 = av.reverse ++ st) (q : ∀ (r : Option Value) (h' : AH), Q r h' → V X mt R Z (nx', sz', A.2.2.1 + mc, A.2.2.2 + ms) (pc + 3) L (r.toList ++ st) h') : V X mt R Z A pc L st1 h := by
  subst hst1
  intro p e s m args below meth c0 H locs ls hF hH hz hl
  by_cases sf : SF X Ln xs s s.heap
  case neg => exact W_triv (fun t => hZ _ _ _ _ sf)
  have hF' := hF
  obtain ⟨hx, hb, -, -, hml, hown, -, hts, hK, -⟩ := hF'
  have hG : GoodIn BIG (va_wsS mt.1.cls idx cm.1 (wsM cm)) := goodIn_BIG (fun w hw => by
    rcases List.mem_append.mp hw with h1 | h1
    · simp only [List.mem_cons, List.not_mem_nil, or_false] at h1
      rcases h1 with rfl | rfl | rfl
      · exact hlk
      · exact hstc
      · exact hmt.2.2.2.2.2
    · exact wsM_good hmt w h1)
  refine v_back (rest := st) hF hH hl hz hle (va_runS (As := av.map (tr X)) ⟨hx, hb, hml, hown, hts⟩ hM ⟨callB_of n hts (goodIn_BIG (wsM_good hmt)) rfl rfl rfl (hts _ hmt.2.2.2.2.2) (hts _ hlk) ⟨hmt.2.2.1.1, hmt.2.2.1.2, hmt.2.2.2.1⟩ ⟨hR.1, by have := hR.2; have := hmt.2.2.2.2.1; show 8 + (cm.2.2.1 + 11) + 64 * d ≤ _; omega⟩, hts _ hstc⟩ ⟨PcF.blind, fun U hU hW => ⟨PcM.at hF hH hz U hU hW, SF.at (p := p) (m := m) (args := args) (meth := meth) (c0 := c0) sf hH U hU hW⟩⟩ rfl (by simpa using hn) hl.1 ?_ (lv_room (st_cat hst)) hd hcs) q
  show (av.reverse ++ st).map (tr X) = _
  simp
/-- cell(script, 0) -/
def cel (Ln : Nat) (xs : Nat → Int32) : Int32 := if (0 : Int32) < Int32.ofNat Ln then xs 0 else 0
theorem s_cell {d nx sz : Nat} (hLn : Ln ≤ 3073) : MokF X Ln xs d m_L_cell [.ref 10600, .int 0] h nx sz nx sz 0 0 (RI (fun y g => y = cel Ln xs ∧ g = h)) := by
  refine MokF.ofV mo_L_cell (Nat.le_of_ble_eq_true rfl) (L := [some (.ref 10600), some (.int 0)]) (lvLe_s (lvLe_s lvLe_e)) ?_
  refine v_iload_n dL_cell_0 rfl ?_
  refine v_aload_n dL_cell_1 rfl ?_
  refine v_slen Vac.f dL_cell_2 ?_
  refine v_icmp_ge (tgt := 12) dL_cell_3 (by decide) (fun c1 => ?_) (fun c1 => ?_)
  · refine v_iconst (x := 0) dL_cell_12 (by decide) ?_
    refine v_ZF (v_iret dL_cell_13 rfl ⟨0, rfl, ?_, rfl⟩)
    unfold cel
    rw [if_neg (Int32.not_lt.mpr c1)]
  · refine v_aload_n dL_cell_6 rfl ?_
    refine v_iload_n dL_cell_7 rfl ?_
    have h0 : 0 < Ln := by
      rcases Nat.eq_zero_or_pos Ln with e | e
      · subst e
        exact absurd (by decide) c1
      · exact e
    refine v_sld Vac.f dL_cell_8 (fun z => ?_) ?_
    · rcases z with z | z
      · exact absurd z (by decide)
      · exact absurd h0 (Nat.not_lt.mpr z)
    refine v_goto (tgt := 13) dL_cell_9 (by decide) ?_
    refine v_ZF (v_iret dL_cell_13 rfl ⟨_, rfl, ?_, rfl⟩)
    unfold cel
    rw [if_pos (Int32.not_le.mp c1)]
    rfl
end VS
