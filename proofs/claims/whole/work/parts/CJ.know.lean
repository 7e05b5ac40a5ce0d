/-! the law's own method that calls knows and catches what it throws -/
section CJ
variable {X : CX} {h : AH} {nx sz n Ln d : Nat} {xs : Nat → Int32}
abbrev m_L_knows : MT := (yL_knows, cL_knows, 4, some .int)
def tbK : List ExceptionTableEntry := tableOf [(0, 9, 12, 13)]
def wsK : List Cond := Cond.codeWith yL_knows cL_knows 4 (some .int) [(0, 9, 12, 13)] :: BIG
theorem wsK_in : Cond.codeWith yL_knows cL_knows 4 (some .int) [(0, 9, 12, 13)] ∈ BIG := (tb5 173 (by decide +kernel) rfl)
def MokK (X : CX) (Ln : Nat) (xs : Nat → Int32) (d : Nat) (x : Int32) (h : AH) (nx sz sz' : Nat) (Q : Option Value → AH → Prop) : Prop :=
  Met X.1 yL_knows wsK (rm d 1 6) (fun v U => PcM X [.ref 0, .int x, .ref 90] h nx sz v U ∧ SF X Ln xs U U.heap) (QcM X Q nx sz') 1 6 (Own X)
theorem MokK.ofV {x : Int32} {sz' : Nat} {Q : Option Value → AH → Prop} (q : V X m_L_knows (rm d 1 6) (ZE tbK (ZF X Ln xs (ZM X Q nx sz' 1 6))) (nx, sz, 0, 0) 0 [some (.ref 0), some (.int x), some (.ref 90)] [] h) : MokK X Ln xs d x h nx sz sz' Q := by
  unfold MokK Met
  refine MetFree.of_bodyS (x := yL_knows) (code := cL_knows) (maxLocals := 4) (ret := some .int) (by decide +kernel) ?_ ?_
  · intro args s m h hn
    obtain ⟨m9, meth, c, hn9, h1, h2, h3, h4, -, h5, h6, -⟩ := Cond.codeWith_spec (atoms_spec (ws := wsK) h _ List.mem_cons_self)
    cases hn.symm.trans hn9
    exact ⟨meth, c, h1, h2, h3, h4, h5, h6⟩
  · intro p e s m args below meth c s₁ B hml hv _
    have hh0 : s₁.heap = s.heap := by rw [B.state]; rfl
    have ef : EF tbK s := EF.of (Stand.of_body B) (vx_table (x := yL_knows) B (atoms_spec (ws := wsK) B.pre _ List.mem_cons_self))
    obtain ⟨t, a1, o, b1, b2, b3, b4⟩ := (Wq_mono (fun t z => z ef hv.2) (ent_V (mt := m_L_knows) (ws := wsK) (fun w hw => List.mem_cons_of_mem _ hw) B hml hv.1 (Nat.le_of_ble_eq_true rfl) (L := [some (.ref 0), some (.int x), some (.ref 90)]) (lvLe_s (lvLe_s (lvLe_s lvLe_e))) q)) s₁ hh0 (Stand.of_body B)
    exact ⟨t, o, a1, b1, b2, b3, b4⟩
theorem v_wide {mt : MT} {R : Room} {Z : ZX} {pc a b c' d' : Nat} {L : List (Option Value)} {st : List Value} {nx sz : Nat} (h1 : a ≤ c') (h2 : b ≤ d') (q : V X mt R Z (nx, sz, c', d') pc L st h) : V X mt R Z (nx, sz, a, b) pc L st h := by
  intro p e s m args below meth c0 H locs ls hF hH hz hl
  exact W.widen h1 h2 (q p e s m args below meth c0 H locs ls hF hH hz hl)
theorem k_good {i : Nat} (hA0 : 91 ≤ nx) (hp : NP h 1 n) (hF : Fx h) (hi : i < n) : MokK X Ln xs (d + 7) (nI i) h nx sz sz (RI fun y g => y = 0 ∧ g = setL h 90 0 (h.1 2 i).toInt64) := by
  refine MokK.ofV ?_
  refine v_aload_n dL_knows_0 rfl ?_
  refine v_iconst (x := 0) dL_knows_1 (by decide) ?_
  refine v_aload_n dL_knows_2 rfl ?_
  refine v_iload_n dL_knows_3 rfl ?_
  refine v_cVI (mt := m_L_knows) (d := d + 5 + 1) mo_X11_knows ml_RL_7 mi_X11_knows mv_X11_knows rfl kd_0 cl_11 rfl (ltA hA0 rfl) ⟨Nat.le_refl _, Nat.le_refl _⟩ ⟨Nat.zero_le _, Nat.zero_le _⟩ (Nat.le_of_ble_eq_true rfl) dL_knows_4 rfl (s_knows (d := d + 5) hA0 hp hF hi) ?_
  rintro y g ⟨rfl, rfl⟩
  refine v_i2l dL_knows_7 ?_
  refine v_last dL_knows_8 kd_90 (ltA hA0 rfl) (vp_in_nI (n := 0) (by decide) (by decide)) ?_
  refine v_goto (tgt := 15) dL_knows_9 (by decide) ?_
  refine v_iconst (x := 0) dL_knows_15 (by decide) ?_
  exact v_wide (Nat.zero_le _) (Nat.zero_le _) (v_ZE (v_ZF (v_iret dL_knows_16 rfl ⟨0, rfl, rfl, rfl⟩)))
theorem v_caught {x : Int32} {L : List (Option Value)} (hl9 : X.1.stackTraces = false) (hA0 : 91 ≤ nx) (hp : NP h 1 n) (hF9 : Fx h) (hx0 : hasI n x = 0) : V X m_L_knows (rm (d + 7) 1 6) (ZE tbK (ZF X Ln xs (ZM X (RI fun y g => y = 1 ∧ g = h) nx (sz + 1) 1 6))) (nx, sz, 0, 0) 4 L [.int x, .ref 0, .int 0, .ref 90] h := by
  intro p e s m args below meth c0 H locs ls hF hH hz hl
  by_cases sf : SF X Ln xs s s.heap
  case neg => exact W_triv (fun t _ z => absurd z sf)
  by_cases ef : EF tbK s
  case neg => exact W_triv (fun t z => absurd z ef)
  intro T hT XT
  have htab := ef.use XT
  have hF' := hF
  obtain ⟨hx, hb, -, hlk, hml, hown, -, hts, hK, hSV, hSH, -⟩ := hF'
  have hA : (0 : Nat) < nx := Nat.lt_of_lt_of_le (by decide) hA0
  have hG : GoodIn BIG (wsV RL 7 (yX11_knows).cls yX11_knows (wsM m_X11_knows)) := goodIn_BIG (fun w hw => by
    rcases List.mem_append.mp hw with h1 | h1
    · simp only [List.mem_cons, List.not_mem_nil, or_false] at h1
      rcases h1 with rfl | rfl | rfl | rfl
      · exact ml_RL_7
      · exact mi_X11_knows
      · exact mv_X11_knows
      · exact mo_X11_knows.2.2.2.2.2
    · exact wsM_good mo_X11_knows w h1)
  have he := (wsL_at (X := X) (h := h) hA).trans (by rw [ent_obj kd_0 (by decide)])
  have hrecv := va_recv hK hH.1 (cl_11).2.1 he
  rw [← ad_own (by decide)] at hrecv
  have hpc : ∀ U : State, U.heap = H → s.WarmedH U.vm → PcM X [.ref 0, .int x] h nx sz (Value.ref (ad X 0) :: [.int x]).toArray U ∧ SF X Ln xs U U.heap := fun U hU hW => ⟨PcM.at (A := (nx, sz, 0, 0)) (av := [.ref 0, .int x]) hF hH hz U hU hW, SF.at (A := (nx, sz, 0, 0)) (p := p) (m := m) (args := args) (meth := meth) (c0 := c0) sf hH U hU hW⟩
  have hr := vx_runV (p := p) (l := X.1) (e := e) (R := rm (d + 7) 1 6) (s := s) (m := m) (args := args) (below := below) (meth := meth) (c := c0) (H := H) (locs := locs) (cells := 0) (slots := 0) (As := [.int x]) (C := (yX11_knows).cls) (b := ad X 0) (rest := [.int 0, .ref (ad X 90)]) (g := F0 m 4 ls [.int x, .ref (ad X 0), .int 0, .ref (ad X 90)]) ⟨hx, hb, hml, hown, hts⟩ (kx_met (d := d) (sz := sz) (Ln := Ln) (xs := xs) hl9 hA0 hp hF9 hx0) (cwV 1 hts hG rfl rfl rfl ⟨rfl, mo_X11_knows.2.2.1.1, mo_X11_knows.2.2.1.2, mo_X11_knows.2.2.2.1⟩ ⟨Nat.le_refl _, by show 8 + (2 + 11) + 64 * (d + 6) ≤ 64 * (d + 7); omega⟩) ⟨PcF.blind, hrecv, hpc⟩ rfl rfl hl.1 rfl (lv_room (Nat.le_of_ble_eq_true rfl)) dL_knows_4 ⟨Nat.le_refl _, Nat.le_refl _⟩
  refine (vx_calli hr hH.2 (fun q _ h => h) (fun q h => h) (fun q _ h => h) (fun E ce q9 u t H1 locs1 ht hal hp9 hB hz1 hk1 hS1 hce hcv hcl => ?_) (fun r u t H1 locs1 ht hal hp9 => hp9.elim)) T hT XT
  obtain ⟨rfl, hsz, hP1⟩ := hB
  rw [ht] at hsz hP1
  refine vx_catch (own := RL) (name := "java/util/NoSuchElementException") (E := "java/util/NoSuchElementException") hown [] ⟨0, 9, 12, 13⟩ [] htab (fun z hz => nomatch hz) (by decide) (by decide) (hts _ (tb5 174 (by decide +kernel) rfl)) (cgN_moved (Vm.Alike.refl s.vm) sf.2.2.1 _ (by decide +kernel)) hce hcv hcl ?_
  refine lv_astore_n hx hb dL_knows_12 rfl hl (by decide) rfl (fun ls' hl' => ?_)
  have q : V X m_L_knows (rm (d + 7) 1 6) (ZE tbK (ZF X Ln xs (ZM X (RI fun y g => y = 1 ∧ g = h) nx (sz + 1) 1 6))) (nx, sz + 1, 1, 6) 13 [] [] h := by
    refine v_iconst (x := 1) dL_knows_13 (by decide) ?_
    exact v_ZE (v_ZF (v_iret dL_knows_14 rfl ⟨1, rfl, rfl, rfl⟩))
  exact q p e s m args below meth c0 H1 locs1 ls' hF ⟨hP1, hS1⟩ hsz ⟨hl'.1, hl'.2.1, fun z hz => nomatch hz⟩
theorem k_bad {x : Int32} (hl9 : X.1.stackTraces = false) (hA0 : 91 ≤ nx) (hp : NP h 1 n) (hF : Fx h) (hx0 : hasI n x = 0) : MokK X Ln xs (d + 7) x h nx sz (sz + 1) (RI fun y g => y = 1 ∧ g = h) := by
  refine MokK.ofV ?_
  refine v_aload_n dL_knows_0 rfl ?_
  refine v_iconst (x := 0) dL_knows_1 (by decide) ?_
  refine v_aload_n dL_knows_2 rfl ?_
  refine v_iload_n dL_knows_3 rfl ?_
  exact v_caught hl9 hA0 hp hF hx0
end CJ
