/-! the law from its first row -/
section CP
theorem lw_l8 : Cond.classLink RL 8 RX11 ∈ BIG := tb1 27 (by decide +kernel) rfl
theorem lw_l24 : Cond.classLink RL 24 RX12 ∈ BIG := tb6 4 (by decide +kernel) rfl
variable {X : CX} {h : AH} {n i Ln : Nat} {xs : Nat → Int32} {nm : String}
theorem lw_all (h2 : 2 ≤ n) (h20 : n ≤ 20) (hn : plV (cel Ln xs) = nI n) (hX : nX X = n) (hl9 : X.1.stackTraces = false) (hL : Ln ≤ 3073) : V X (m_law nm) room_1 (ZL X Ln xs) (0, X.2.1 + 0, 0, 0) 0 [some (.ref 10600), none, none, none, none, none, none] [] h := by
  refine k_new (c := 11) (N := 15) (nx' := 1) (mc' := 1) (ms' := 15) dL_law_0 cl_11 lw_l8 (tb1 28 (by decide +kernel) rfl) (tb1 1 (by decide +kernel) rfl) (by decide) kd_0 rfl rfl rfl ⟨Nat.le_of_ble_eq_true rfl, Nat.le_of_ble_eq_true rfl⟩ ?_
  refine v_dup dL_law_3 rfl ?_
  refine v_aload_n dL_law_4 rfl ?_
  refine v_iconst (x := 0) dL_law_5 (by decide) ?_
  refine v_callSF (mt := m_law nm) (cm := m_L_cell) (A := (1, X.2.1 + 1, 1, 15)) (Ln := Ln) (xs := xs) Vac.f.a (s_cell (d := 60) (nx := 1) (sz := X.2.1 + 1) hL) mo_L_cell ml_RL_15 mz_L_cell rfl RO_law ⟨Nat.le_of_ble_eq_true rfl, Nat.le_of_ble_eq_true rfl⟩ (Nat.le_refl _) (Nat.le_of_ble_eq_true rfl) dL_law_6 rfl (fun r h' q => ?_)
  obtain ⟨y, rfl, rfl, rfl⟩ := q
  have hM1 : KiO X 60 m_X11_init [.ref 0, .int (cel Ln xs)] (newH h 0) 1 68 67 2671 (RV fun g => Tm n 0 68 g) := p_X11 (d := 58) hX h20 hn
  refine k_callIO (mt := m_law nm) (cm := m_X11_init) (av := [.int (cel Ln xs)]) (mc := 67) (ms := 2671) (k := 0) (d := 60) (nx' := 68) (mc1 := 68) (ms1 := 2686) dL_law_9 mo_X11_init ml_RL_21 mi_X11_init rfl rfl rfl hM1 RO_law rfl rfl ⟨Nat.le_of_ble_eq_true rfl, Nat.le_of_ble_eq_true rfl⟩ (by decide) (Nat.le_of_ble_eq_true rfl) rfl (fun g t1 => ?_)
  refine v_astore_n dL_law_12 (show 1 < 7 by decide) rfl ?_
  refine k_new (c := 12) (N := 47) (nx' := 69) (mc' := 69) (ms' := 2733) dL_law_13 cl_12 lw_l24 (tb6 5 (by decide +kernel) rfl) mo_X12_init.2.2.2.2.2 (by decide) kd_68 rfl rfl rfl ⟨Nat.le_of_ble_eq_true rfl, Nat.le_of_ble_eq_true rfl⟩ ?_
  refine v_dup dL_law_16 rfl ?_
  refine v_aload_n dL_law_17 rfl ?_
  refine v_iconst (x := 0) dL_law_18 (by decide) ?_
  refine v_callSF (mt := m_law nm) (cm := m_L_cell) (A := (69, X.2.1 + 69, 69, 2733)) (Ln := Ln) (xs := xs) Vac.f.a (s_cell (d := 60) (nx := 69) (sz := X.2.1 + 69) hL) mo_L_cell ml_RL_15 mz_L_cell rfl RO_law ⟨Nat.le_of_ble_eq_true rfl, Nat.le_of_ble_eq_true rfl⟩ (Nat.le_refl _) (Nat.le_of_ble_eq_true rfl) dL_law_19 rfl (fun r h' q => ?_)
  obtain ⟨y, rfl, rfl, rfl⟩ := q
  have hM2 : Ki X 60 m_X12_init [.ref 68, .int (cel Ln xs)] (newH g 68) 69 90 21 4675 (RV fun g2 => Kp 68 g g2 ∧ Tm n 68 90 g2) := p_X12 (d := 58) hn
  refine k_callI (mt := m_law nm) (cm := m_X12_init) (av := [.int (cel Ln xs)]) (st := [.ref 68]) (mc := 21) (ms := 4675) (k := 68) (d := 60) (nx' := 90) (mc1 := 90) (ms1 := 7408) dL_law_22 mo_X12_init ml_RL_26 mi_X12_init rfl rfl rfl hM2 RO_law rfl rfl ⟨Nat.le_of_ble_eq_true rfl, Nat.le_of_ble_eq_true rfl⟩ (by decide) (Nat.le_of_ble_eq_true rfl) rfl (fun g2 t2 => ?_)
  refine v_astore_n dL_law_25 (show 2 < 7 by decide) rfl ?_
  refine v_iconst (x := 1) dL_law_26 (by decide) ?_
  refine k_newa (kc := 23) (N := 1) (nx' := 91) (mc' := 91) (ms' := 7409) dL_law_27 rfl (by decide) (tb1 116 (by decide +kernel) rfl) (by decide) (by decide) (by decide) kd_90 rfl rfl rfl ⟨Nat.le_of_ble_eq_true rfl, Nat.le_of_ble_eq_true rfl⟩ ?_
  refine v_astore_n dL_law_29 (show 3 < 7 by decide) rfl ?_
  refine v_iconst (x := nI 1) dL_law_30 (by decide) ?_
  refine v_istore dL_law_31 (show 4 < 7 by decide) rfl ?_
  have t3 : Tm n 0 90 g2 := (t1.kp t2.1 (Nat.le_refl _)).join t2.2
  have t4 : Tm n 0 90 (newH g2 90) := t3.kp (Kp.rfl.newH (Nat.le_refl _)) (Nat.le_refl _)
  exact lw_loop hX hl9 hL Ln 1 91 7409 (X.2.1 + 91) _ (by omega) (by omega) (by omega) (by omega) (t4.inv h2 h20 (t4.fx (by decide +kernel)))
end CP
