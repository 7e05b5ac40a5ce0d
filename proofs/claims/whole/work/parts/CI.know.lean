/-! knows, of the class: told, or thrown; caught by the law's own method -/
section CI
variable {X : CX} {h : AH} {nx sz n Ln d : Nat} {xs : Nat → Int32}
theorem s_knows {i : Nat} (hA0 : 91 ≤ nx) (hp : NP h 1 n) (hF : Fx h) (hi : i < n) : Mk X (d + 1) m_X11_knows [.ref 0, .int (nI i)] h nx sz (RE (h.1 2 i) h) := by
  have hn := hp.2.2.2.2
  refine Mk.re fun Q hq => Mok.ofV mo_X11_knows (Nat.le_of_ble_eq_true rfl) (L := [some (.ref 0), some (.int (nI i))]) (lvLe_s (lvLe_s lvLe_e)) ?_
  refine v_aload_n dX11_knows_0 rfl ?_
  refine v_getR dX11_knows_1 fl_RX11_27 kd_0 (ltA hA0 rfl) rfl (hF 0 1 1 rfl) ?_
  refine v_iload_n dX11_knows_4 rfl ?_
  refine v_cVI (mt := m_X11_knows) mo_X3_has ml_RX11_160 mi_X3_has mv_X3_has rfl kd_1 cl_3 rfl (ltA hA0 rfl) RO_rm hcs0 (Nat.le_of_ble_eq_true rfl) dX11_knows_5 rfl (s_has (d := d) hA0 hp) ?_
  rintro y g ⟨rfl, rfl⟩
  rw [hasI_nI (by omega) hi]
  refine v_if_ne (tgt := 21) dX11_knows_8 (by decide) (fun _ => ?_) (fun z => by cases z)
  refine v_aload_n dX11_knows_21 rfl ?_
  refine v_getR dX11_knows_22 fl_RX11_27 kd_0 (ltA hA0 rfl) rfl (hF 0 1 1 rfl) ?_
  refine v_getR dX11_knows_25 fl_RX11_136 kd_1 (ltA hA0 rfl) rfl (hF 1 2 2 rfl) ?_
  refine v_iload_n dX11_knows_28 rfl ?_
  refine v_iald dX11_knows_29 kd_2 (ltA hA0 rfl) (vp_in_nI (by omega) (by omega)) ?_
  rw [tN (by omega)]
  exact v_iret dX11_knows_30 rfl hq
/-- what a throw leaves -/
abbrev XK (X : CX) (h : AH) (nx sz : Nat) : String → State → State → Prop := vx_X (fun _ : Unit => True) (fun E _ t => E = "java/util/NoSuchElementException" ∧ t.heap.size = sz + 1 ∧ va_P X.2.2.1 vwCl (wsL X h nx) t.heap) (Own X)
abbrev QK (X : CX) : Array Value → State → Outcome → State → Prop := va_Qi (fun (_ : Int32) (_ : Unit) => False) (fun _ _ => True) (Own X)
theorem v_thrown {L : List (Option Value)} (hl9 : X.1.stackTraces = false) : V X m_X11_knows (rm (d + 6) 1 6) (ZE [] (ZF X Ln xs (fun args below s => vx_MQ below (QK X) (XK X h nx sz) args s 1 6 (Own X)))) (nx, sz, 0, 0) 11 L [] h := by
  intro p e s m args below meth c0 H locs ls hF hH hz hl
  by_cases sf : SF X Ln xs s s.heap
  case neg => exact W_triv (fun t _ z => absurd z sf)
  by_cases ef : EF [] s
  case neg => exact W_triv (fun t z => absurd z ef)
  intro T hT XT
  have htab := ef.use XT
  have hF' := hF
  obtain ⟨hx, hb, -, hlk, hml, hown, -, hts, hK, hSV, hSH, -⟩ := hF'
  refine (Wq_mono (fun t z _ _ => z) (cg_throwS (rx := prog_31_method_4_code) (ix := 13) (Y0 := "java/lang/RuntimeException") (r0 := ["java/lang/Exception"]) hx hb hl9 (by decide +kernel) (by decide +kernel) (by decide +kernel) (by decide +kernel) hown (by decide +kernel) (by decide +kernel) (by decide +kernel) (hts _ (tb5 179 (by decide +kernel) rfl)) (hts _ (tb1 26 (by decide +kernel) rfl)) hSV.2.2.2.2 (sf.2.2.words hts) cgL_ot sf.2.2.2.1 sf.2.2.2.2 hH.2 (hl.1.trans hml.symm) dX11_knows_11 dX11_knows_14 dX11_knows_15 dX11_knows_17 dX11_knows_20 (fun x hx9 => by rw [htab] at hx9; cases hx9) (by show 1 + 4 < d + 6; omega) (by show 0 + (13 * 3 + 43) ≤ 64 * (d + 6); omega) (Nat.le_refl _) (Nat.le_refl _) hlk (fun t h1 h2 h3 h4 => ⟨(), trivial, ⟨rfl, by rw [h4, hz], fun k q hk => va_at.kept (hH.1 k q hk) (h3 _ (hH.1 k q hk).lt)⟩, Nat.le_trans hH.2.1 h2, fun q g1 g2 => by rw [h3 q (Nat.lt_of_lt_of_le g1 hH.2.1)]; exact hH.2.2.1 q g1 g2⟩) hH.2.2.2 (Nat.le_refl _) (Nat.le_refl _))) T hT XT
theorem kx_met {x : Int32} (hl9 : X.1.stackTraces = false) (hA0 : 91 ≤ nx) (hp : NP h 1 n) (hF : Fx h) (hx0 : hasI n x = 0) : vx_Met X.1 yX11_knows (wsM m_X11_knows) (rm (d + 6) 1 6) (fun v U => PcM X [.ref 0, .int x] h nx sz v U ∧ SF X Ln xs U U.heap) (QK X) (XK X h nx sz) 1 6 (Own X) := by
  refine vx_ofW (cc := cX11_knows) (maxL := 2) (ret := some .int) mo_X11_knows.1 rfl ?_
  intro p e s m args below meth c s₁ B hml ht hv
  have ef : EF [] s := EF.of (Stand.of_body B) (by
    cases q : c.exceptionTable.toList with
    | nil => rfl
    | cons z zs => exact (ht z (by rw [q]; exact List.mem_cons_self)).elim)
  refine Wq_mono (fun t z => z ef hv.2) (ent_V (mt := m_X11_knows) (Z := ZE [] (ZF X Ln xs (fun args below s => vx_MQ below (QK X) (XK X h nx sz) args s 1 6 (Own X)))) (fun w hw => List.mem_cons_of_mem _ hw) B hml hv.1 (Nat.le_of_ble_eq_true rfl) (L := [some (.ref 0), some (.int x)]) (lvLe_s (lvLe_s lvLe_e)) ?_)
  refine v_aload_n dX11_knows_0 rfl ?_
  refine v_getR dX11_knows_1 fl_RX11_27 kd_0 (ltA hA0 rfl) rfl (hF 0 1 1 rfl) ?_
  refine v_iload_n dX11_knows_4 rfl ?_
  refine v_cVI (mt := m_X11_knows) (d := d) mo_X3_has ml_RX11_160 mi_X3_has mv_X3_has rfl kd_1 cl_3 rfl (ltA hA0 rfl) ⟨by show d + 1 ≤ d + 6; omega, by show 64 * (d + 1) ≤ 64 * (d + 6); omega⟩ ⟨Nat.zero_le _, Nat.zero_le _⟩ (Nat.le_of_ble_eq_true rfl) dX11_knows_5 rfl (s_has (d := d) hA0 hp) ?_
  rintro y g ⟨rfl, rfl⟩
  rw [hx0]
  refine v_if_ne (tgt := 21) dX11_knows_8 (by decide) (fun z => absurd rfl z) (fun _ => ?_)
  exact v_thrown hl9
end CI
