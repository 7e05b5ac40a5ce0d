/-! the class is made, by program -/
section KX
variable {X : CX} {d n : Nat} {h : AH}
set_option maxRecDepth 100000 in
theorem p_X11 {x : Int32} (hX : nX X = n) (h20 : n ≤ 20) (hx : plV x = nI n) : KiO X (d + 2) m_X11_init [.ref 0, .int x] (newH h 0) 1 68 67 2671 (RV fun g => Tm n 0 68 g) := by
  refine MokO.ofV mo_X11_init (Nat.le_of_ble_eq_true rfl) (L := [some (.ref 0), some (.int x)]) (lvLe_s (lvLe_s lvLe_e)) ?_
  refine v_aload_n dX11_init_0 rfl ?_
  refine v_objInit dX11_init_1 (tb1 32 (by decide +kernel) rfl) (tb1 33 (by decide +kernel) rfl) (tb1 34 (by decide +kernel) rfl) (RO_1 RO_rm) (Nat.le_of_ble_eq_true rfl) ?_
  refine v_aload_n dX11_init_4 rfl ?_
  refine v_iconst dX11_init_5 ci_2 ?_
  refine v_bipush dX11_init_6 cb_20 ?_
  refine v_iload_n dX11_init_8 rfl ?_
  refine v_mmin dX11_init_9 ml_RX11_9 mz_mmin in_math mc_mmin (RO_1 RO_rm) ⟨(Nat.le_of_ble_eq_true rfl), (Nat.le_of_ble_eq_true rfl)⟩ (Nat.le_of_ble_eq_true rfl) ?_
  refine v_mmax dX11_init_12 ml_RX11_15 mz_mmax in_math mc_mmax (RO_1 RO_rm) ⟨(Nat.le_of_ble_eq_true rfl), (Nat.le_of_ble_eq_true rfl)⟩ (Nat.le_of_ble_eq_true rfl) ?_
  have e : (if (2 : Int32) < (if x < 20 then x else 20) then (if x < 20 then x else 20) else 2) = nI n := hx
  rw [e]
  refine v_putI rfl rfl rfl dX11_init_15 fl_RX11_18 (Or.inr ⟨rfl, rfl, rfl⟩) kd_0 (Nat.le_of_ble_eq_true rfl) ?_
  have f : Fa n 0 (setI (newH h 0) 0 0 (nI n)) := ⟨rfl, fun j hj => if_neg (fun z => hj z.2), fun x hx z => absurd z (by
    have : ∀ x, x ∈ R0f 0 1 → ¬ x.1.2 ≤ 0 := by decide +kernel
    exact this x hx)⟩
  have t : Tm n 1 1 (setI (newH h 0) 0 0 (nI n)) := ⟨fun a h1 h2 => by omega, fun x hx => by have := (R0f_in.mp hx).2; omega⟩
  generalize setI (newH h 0) 0 0 (nI n) = G at f t ⊢
  refine v_aload_n dX11_init_18 rfl ?_
  refine k_new (c := 3) (N := 5) (nx' := 2) (mc' := 1) (ms' := 5) dX11_init_19 cl_3 (tb1 41 (by decide +kernel) rfl) (tb1 42 (by decide +kernel) rfl) (tb1 3 (by decide +kernel) rfl) (by decide) kd_1 rfl rfl rfl ⟨(Nat.le_of_ble_eq_true rfl), (Nat.le_of_ble_eq_true rfl)⟩ ?_
  refine v_dup dX11_init_22 rfl ?_
  refine v_aload_n dX11_init_23 rfl ?_
  refine v_getI dX11_init_24 fl_RX11_18 kd_0 (Nat.le_of_ble_eq_true rfl) rfl ?_
  rw [show (newH G 1).1 0 0 = nI n from f.1]
  refine k_callI (mt := m_X11_init) (mc1 := 4) (ms1 := 65) dX11_init_27 mo_X3_init ml_RX11_24 mi_X3_init rfl rfl rfl (p_X3_1 (d := d) (n := n)) RO_rm rfl rfl ⟨(Nat.le_of_ble_eq_true rfl), (Nat.le_of_ble_eq_true rfl)⟩ (by decide) (Nat.le_of_ble_eq_true rfl) rfl (fun g hg => ?_)
  obtain ⟨kp, tm⟩ := hg
  refine v_putR rfl dX11_init_30 fl_RX11_27 (Or.inr ⟨rfl, rfl, rfl⟩) kd_0 (Nat.le_of_ble_eq_true rfl) ?_
  obtain ⟨f, t⟩ := st_step (s := 0) f t kp tm (by decide) (by decide +kernel)
  generalize setR g 0 (0 + 1) (some 1) = G at f t ⊢
  clear kp tm
  refine v_aload_n dX11_init_33 rfl ?_
  refine k_new (c := 3) (N := 5) (nx' := 6) (mc' := 5) (ms' := 70) dX11_init_34 cl_3 (tb1 41 (by decide +kernel) rfl) (tb1 42 (by decide +kernel) rfl) (tb1 3 (by decide +kernel) rfl) (by decide) kd_5 rfl rfl rfl ⟨(Nat.le_of_ble_eq_true rfl), (Nat.le_of_ble_eq_true rfl)⟩ ?_
  refine v_dup dX11_init_37 rfl ?_
  refine v_aload_n dX11_init_38 rfl ?_
  refine v_getI dX11_init_39 fl_RX11_18 kd_0 (Nat.le_of_ble_eq_true rfl) rfl ?_
  rw [show (newH G 5).1 0 0 = nI n from f.1]
  refine k_callI (mt := m_X11_init) (mc1 := 8) (ms1 := 130) dX11_init_42 mo_X3_init ml_RX11_24 mi_X3_init rfl rfl rfl (p_X3_5 (d := d) (n := n)) RO_rm rfl rfl ⟨(Nat.le_of_ble_eq_true rfl), (Nat.le_of_ble_eq_true rfl)⟩ (by decide) (Nat.le_of_ble_eq_true rfl) rfl (fun g hg => ?_)
  obtain ⟨kp, tm⟩ := hg
  refine v_putR rfl dX11_init_45 fl_RX11_31 (Or.inr ⟨rfl, rfl, rfl⟩) kd_0 (Nat.le_of_ble_eq_true rfl) ?_
  obtain ⟨f, t⟩ := st_step (s := 1) f t kp tm (by decide) (by decide +kernel)
  generalize setR g 0 (1 + 1) (some 5) = G at f t ⊢
  clear kp tm
  refine v_aload_n dX11_init_48 rfl ?_
  refine k_new (c := 3) (N := 5) (nx' := 10) (mc' := 9) (ms' := 135) dX11_init_49 cl_3 (tb1 41 (by decide +kernel) rfl) (tb1 42 (by decide +kernel) rfl) (tb1 3 (by decide +kernel) rfl) (by decide) kd_9 rfl rfl rfl ⟨(Nat.le_of_ble_eq_true rfl), (Nat.le_of_ble_eq_true rfl)⟩ ?_
  refine v_dup dX11_init_52 rfl ?_
  refine v_aload_n dX11_init_53 rfl ?_
  refine v_getI dX11_init_54 fl_RX11_18 kd_0 (Nat.le_of_ble_eq_true rfl) rfl ?_
  rw [show (newH G 9).1 0 0 = nI n from f.1]
  refine k_callI (mt := m_X11_init) (mc1 := 12) (ms1 := 195) dX11_init_57 mo_X3_init ml_RX11_24 mi_X3_init rfl rfl rfl (p_X3_9 (d := d) (n := n)) RO_rm rfl rfl ⟨(Nat.le_of_ble_eq_true rfl), (Nat.le_of_ble_eq_true rfl)⟩ (by decide) (Nat.le_of_ble_eq_true rfl) rfl (fun g hg => ?_)
  obtain ⟨kp, tm⟩ := hg
  refine v_putR rfl dX11_init_60 fl_RX11_34 (Or.inr ⟨rfl, rfl, rfl⟩) kd_0 (Nat.le_of_ble_eq_true rfl) ?_
  obtain ⟨f, t⟩ := st_step (s := 2) f t kp tm (by decide) (by decide +kernel)
  generalize setR g 0 (2 + 1) (some 9) = G at f t ⊢
  clear kp tm
  refine v_aload_n dX11_init_63 rfl ?_
  refine k_new (c := 5) (N := 7) (nx' := 14) (mc' := 13) (ms' := 202) dX11_init_64 cl_5 (tb1 88 (by decide +kernel) rfl) (tb1 89 (by decide +kernel) rfl) (tb1 5 (by decide +kernel) rfl) (by decide) kd_13 rfl rfl rfl ⟨(Nat.le_of_ble_eq_true rfl), (Nat.le_of_ble_eq_true rfl)⟩ ?_
  refine v_dup dX11_init_67 rfl ?_
  refine v_aload_n dX11_init_68 rfl ?_
  refine v_getR (r := 1) dX11_init_69 fl_RX11_27 kd_0 (Nat.le_of_ble_eq_true rfl) rfl (show G.2.2 0 1 = some 1 from f.2.2 ((0, 1), 1) (by decide +kernel) (by decide)) ?_
  refine k_callI (mt := m_X11_init) (mc1 := 19) (ms1 := 382) dX11_init_72 mo_X5_init ml_RX11_39 mi_X5_init rfl rfl rfl (p_X5 (d := d) (n := n)) RO_rm rfl rfl ⟨(Nat.le_of_ble_eq_true rfl), (Nat.le_of_ble_eq_true rfl)⟩ (by decide) (Nat.le_of_ble_eq_true rfl) rfl (fun g hg => ?_)
  obtain ⟨kp, tm⟩ := hg
  refine v_putR rfl dX11_init_75 fl_RX11_42 (Or.inr ⟨rfl, rfl, rfl⟩) kd_0 (Nat.le_of_ble_eq_true rfl) ?_
  obtain ⟨f, t⟩ := st_step (s := 3) f t kp tm (by decide) (by decide +kernel)
  generalize setR g 0 (3 + 1) (some 13) = G at f t ⊢
  clear kp tm
  refine v_aload_n dX11_init_78 rfl ?_
  refine k_new (c := 1) (N := 1) (nx' := 21) (mc' := 20) (ms' := 383) dX11_init_79 cl_1 (tb1 117 (by decide +kernel) rfl) (tb1 118 (by decide +kernel) rfl) (tb1 6 (by decide +kernel) rfl) (by decide) kd_20 rfl rfl rfl ⟨(Nat.le_of_ble_eq_true rfl), (Nat.le_of_ble_eq_true rfl)⟩ ?_
  refine v_dup dX11_init_82 rfl ?_
  refine v_aload_n dX11_init_83 rfl ?_
  refine v_getR (r := 1) dX11_init_84 fl_RX11_27 kd_0 (Nat.le_of_ble_eq_true rfl) rfl (show G.2.2 0 1 = some 1 from f.2.2 ((0, 1), 1) (by decide +kernel) (by decide)) ?_
  refine k_callI (mt := m_X11_init) (mc1 := 20) (ms1 := 383) dX11_init_87 mo_X1_init ml_RX11_48 mi_X1_init rfl rfl rfl (p_X1 (d := d) (n := n)) RO_rm rfl rfl ⟨(Nat.le_of_ble_eq_true rfl), (Nat.le_of_ble_eq_true rfl)⟩ (by decide) (Nat.le_of_ble_eq_true rfl) rfl (fun g hg => ?_)
  obtain ⟨kp, tm⟩ := hg
  refine v_putR rfl dX11_init_90 fl_RX11_49 (Or.inr ⟨rfl, rfl, rfl⟩) kd_0 (Nat.le_of_ble_eq_true rfl) ?_
  obtain ⟨f, t⟩ := st_step (s := 4) f t kp tm (by decide) (by decide +kernel)
  generalize setR g 0 (4 + 1) (some 20) = G at f t ⊢
  clear kp tm
  refine v_aload_n dX11_init_93 rfl ?_
  refine k_new (c := 9) (N := 2) (nx' := 22) (mc' := 21) (ms' := 385) dX11_init_94 cl_9 (tb1 127 (by decide +kernel) rfl) (tb1 128 (by decide +kernel) rfl) (tb1 7 (by decide +kernel) rfl) (by decide) kd_21 rfl rfl rfl ⟨(Nat.le_of_ble_eq_true rfl), (Nat.le_of_ble_eq_true rfl)⟩ ?_
  refine v_dup dX11_init_97 rfl ?_
  refine v_aload_n dX11_init_98 rfl ?_
  refine v_getR (r := 1) dX11_init_99 fl_RX11_27 kd_0 (Nat.le_of_ble_eq_true rfl) rfl (show G.2.2 0 1 = some 1 from f.2.2 ((0, 1), 1) (by decide +kernel) (by decide)) ?_
  refine k_callI (mt := m_X11_init) (mc1 := 22) (ms1 := 407) dX11_init_102 mo_X9_init ml_RX11_55 mi_X9_init rfl rfl rfl (p_X9 (d := d) (n := n) hX h20 (t.1 1 (Nat.le_refl _) (by decide) 0)) RO_rm rfl rfl ⟨(Nat.le_of_ble_eq_true rfl), (Nat.le_of_ble_eq_true rfl)⟩ (by decide) (Nat.le_of_ble_eq_true rfl) rfl (fun g hg => ?_)
  obtain ⟨kp, tm⟩ := hg
  refine v_putR rfl dX11_init_105 fl_RX11_56 (Or.inr ⟨rfl, rfl, rfl⟩) kd_0 (Nat.le_of_ble_eq_true rfl) ?_
  obtain ⟨f, t⟩ := st_step (s := 5) f t kp tm (by decide) (by decide +kernel)
  generalize setR g 0 (5 + 1) (some 21) = G at f t ⊢
  clear kp tm
  refine v_aload_n dX11_init_108 rfl ?_
  refine k_new (c := 10) (N := 2) (nx' := 24) (mc' := 23) (ms' := 409) dX11_init_109 cl_10 (tb1 140 (by decide +kernel) rfl) (tb1 141 (by decide +kernel) rfl) (tb1 8 (by decide +kernel) rfl) (by decide) kd_23 rfl rfl rfl ⟨(Nat.le_of_ble_eq_true rfl), (Nat.le_of_ble_eq_true rfl)⟩ ?_
  refine v_dup dX11_init_112 rfl ?_
  refine k_callIN (mt := m_X11_init) (mc1 := 24) (ms1 := 609) dX11_init_113 mo_X10_init mn_RX11_62 mi_X10_init rfl rfl rfl (p_X10 (d := d) (n := n)) RO_rm rfl rfl ⟨(Nat.le_of_ble_eq_true rfl), (Nat.le_of_ble_eq_true rfl)⟩ (by decide) (Nat.le_of_ble_eq_true rfl) rfl (fun g hg => ?_)
  obtain ⟨kp, tm⟩ := hg
  refine v_putR rfl dX11_init_116 fl_RX11_63 (Or.inr ⟨rfl, rfl, rfl⟩) kd_0 (Nat.le_of_ble_eq_true rfl) ?_
  obtain ⟨f, t⟩ := st_step (s := 6) f t kp tm (by decide) (by decide +kernel)
  generalize setR g 0 (6 + 1) (some 23) = G at f t ⊢
  clear kp tm
  refine v_aload_n dX11_init_119 rfl ?_
  refine k_new (c := 4) (N := 3) (nx' := 26) (mc' := 25) (ms' := 612) dX11_init_120 cl_4 (tb1 156 (by decide +kernel) rfl) (tb1 157 (by decide +kernel) rfl) (tb1 9 (by decide +kernel) rfl) (by decide) kd_25 rfl rfl rfl ⟨(Nat.le_of_ble_eq_true rfl), (Nat.le_of_ble_eq_true rfl)⟩ ?_
  refine v_dup dX11_init_123 rfl ?_
  refine v_aload_n dX11_init_124 rfl ?_
  refine v_getR (r := 23) dX11_init_125 fl_RX11_63 kd_0 (Nat.le_of_ble_eq_true rfl) rfl (show G.2.2 0 7 = some 23 from f.2.2 ((0, 7), 23) (by decide +kernel) (by decide)) ?_
  refine v_aload_n dX11_init_128 rfl ?_
  refine v_getR (r := 1) dX11_init_129 fl_RX11_27 kd_0 (Nat.le_of_ble_eq_true rfl) rfl (show G.2.2 0 1 = some 1 from f.2.2 ((0, 1), 1) (by decide +kernel) (by decide)) ?_
  refine k_callI (mt := m_X11_init) (mc1 := 26) (ms1 := 632) dX11_init_132 mo_X4_init ml_RX11_69 mi_X4_init rfl rfl rfl (p_X4 (d := d) (n := n)) RO_rm rfl rfl ⟨(Nat.le_of_ble_eq_true rfl), (Nat.le_of_ble_eq_true rfl)⟩ (by decide) (Nat.le_of_ble_eq_true rfl) rfl (fun g hg => ?_)
  obtain ⟨kp, tm⟩ := hg
  refine v_putR rfl dX11_init_135 fl_RX11_72 (Or.inr ⟨rfl, rfl, rfl⟩) kd_0 (Nat.le_of_ble_eq_true rfl) ?_
  obtain ⟨f, t⟩ := st_step (s := 7) f t kp tm (by decide) (by decide +kernel)
  generalize setR g 0 (7 + 1) (some 25) = G at f t ⊢
  clear kp tm
  refine v_aload_n dX11_init_138 rfl ?_
  refine k_new (c := 7) (N := 5) (nx' := 28) (mc' := 27) (ms' := 637) dX11_init_139 cl_7 (tb1 173 (by decide +kernel) rfl) (tb1 174 (by decide +kernel) rfl) (tb1 10 (by decide +kernel) rfl) (by decide) kd_27 rfl rfl rfl ⟨(Nat.le_of_ble_eq_true rfl), (Nat.le_of_ble_eq_true rfl)⟩ ?_
  refine v_dup dX11_init_142 rfl ?_
  refine v_aload_n dX11_init_143 rfl ?_
  refine v_getR (r := 23) dX11_init_144 fl_RX11_63 kd_0 (Nat.le_of_ble_eq_true rfl) rfl (show G.2.2 0 7 = some 23 from f.2.2 ((0, 7), 23) (by decide +kernel) (by decide)) ?_
  refine k_callI (mt := m_X11_init) (mc1 := 28) (ms1 := 837) dX11_init_147 mo_X7_init ml_RX11_78 mi_X7_init rfl rfl rfl (p_X7 (d := d) (n := n)) RO_rm rfl rfl ⟨(Nat.le_of_ble_eq_true rfl), (Nat.le_of_ble_eq_true rfl)⟩ (by decide) (Nat.le_of_ble_eq_true rfl) rfl (fun g hg => ?_)
  obtain ⟨kp, tm⟩ := hg
  refine v_putR rfl dX11_init_150 fl_RX11_81 (Or.inr ⟨rfl, rfl, rfl⟩) kd_0 (Nat.le_of_ble_eq_true rfl) ?_
  obtain ⟨f, t⟩ := st_step (s := 8) f t kp tm (by decide) (by decide +kernel)
  generalize setR g 0 (8 + 1) (some 27) = G at f t ⊢
  clear kp tm
  refine v_aload_n dX11_init_153 rfl ?_
  refine k_new (c := 8) (N := 5) (nx' := 30) (mc' := 29) (ms' := 842) dX11_init_154 cl_8 (tb1 197 (by decide +kernel) rfl) (tb1 198 (by decide +kernel) rfl) (tb1 11 (by decide +kernel) rfl) (by decide) kd_29 rfl rfl rfl ⟨(Nat.le_of_ble_eq_true rfl), (Nat.le_of_ble_eq_true rfl)⟩ ?_
  refine v_dup dX11_init_157 rfl ?_
  refine k_callINO (mt := m_X11_init) (mc1 := 39) (ms1 := 2111) dX11_init_158 mo_X8_init mn_RX11_87 mi_X8_init rfl rfl rfl (p_X8 (d := d) (n := n)) RO_rm rfl rfl ⟨(Nat.le_of_ble_eq_true rfl), (Nat.le_of_ble_eq_true rfl)⟩ (by decide) (Nat.le_of_ble_eq_true rfl) rfl (fun g hg => ?_)
  obtain ⟨kp, tm⟩ := hg
  refine v_putR rfl dX11_init_161 fl_RX11_88 (Or.inr ⟨rfl, rfl, rfl⟩) kd_0 (Nat.le_of_ble_eq_true rfl) ?_
  obtain ⟨f, t⟩ := st_step (s := 9) f t kp tm (by decide) (by decide +kernel)
  generalize setR g 0 (9 + 1) (some 29) = G at f t ⊢
  clear kp tm
  refine v_aload_n dX11_init_164 rfl ?_
  refine k_new (c := 2) (N := 9) (nx' := 41) (mc' := 40) (ms' := 2120) dX11_init_165 cl_2 (tb1 224 (by decide +kernel) rfl) (tb1 225 (by decide +kernel) rfl) (tb1 12 (by decide +kernel) rfl) (by decide) kd_40 rfl rfl rfl ⟨(Nat.le_of_ble_eq_true rfl), (Nat.le_of_ble_eq_true rfl)⟩ ?_
  refine v_dup dX11_init_168 rfl ?_
  refine v_aload_n dX11_init_169 rfl ?_
  refine v_getR (r := 1) dX11_init_170 fl_RX11_27 kd_0 (Nat.le_of_ble_eq_true rfl) rfl (show G.2.2 0 1 = some 1 from f.2.2 ((0, 1), 1) (by decide +kernel) (by decide)) ?_
  refine k_callIO (mt := m_X11_init) (mc1 := 62) (ms1 := 2560) dX11_init_173 mo_X2_init ml_RX11_94 mi_X2_init rfl rfl rfl (p_X2 (d := d) (n := n)) RO_rm rfl rfl ⟨(Nat.le_of_ble_eq_true rfl), (Nat.le_of_ble_eq_true rfl)⟩ (by decide) (Nat.le_of_ble_eq_true rfl) rfl (fun g hg => ?_)
  obtain ⟨kp, tm⟩ := hg
  refine v_putR rfl dX11_init_176 fl_RX11_95 (Or.inr ⟨rfl, rfl, rfl⟩) kd_0 (Nat.le_of_ble_eq_true rfl) ?_
  obtain ⟨f, t⟩ := st_step (s := 10) f t kp tm (by decide) (by decide +kernel)
  generalize setR g 0 (10 + 1) (some 40) = G at f t ⊢
  clear kp tm
  refine v_aload_n dX11_init_179 rfl ?_
  refine k_new (c := 6) (N := 5) (nx' := 64) (mc' := 63) (ms' := 2565) dX11_init_180 cl_6 (tb2 26 (by decide +kernel) rfl) (tb2 27 (by decide +kernel) rfl) (tb1 13 (by decide +kernel) rfl) (by decide) kd_63 rfl rfl rfl ⟨(Nat.le_of_ble_eq_true rfl), (Nat.le_of_ble_eq_true rfl)⟩ ?_
  refine v_dup dX11_init_183 rfl ?_
  refine v_aload_n dX11_init_184 rfl ?_
  refine v_getR (r := 1) dX11_init_185 fl_RX11_27 kd_0 (Nat.le_of_ble_eq_true rfl) rfl (show G.2.2 0 1 = some 1 from f.2.2 ((0, 1), 1) (by decide +kernel) (by decide)) ?_
  refine v_aload_n dX11_init_188 rfl ?_
  refine v_getR (r := 29) dX11_init_189 fl_RX11_88 kd_0 (Nat.le_of_ble_eq_true rfl) rfl (show G.2.2 0 10 = some 29 from f.2.2 ((0, 10), 29) (by decide +kernel) (by decide)) ?_
  refine k_callI (mt := m_X11_init) (mc1 := 65) (ms1 := 2646) dX11_init_192 mo_X6_init ml_RX11_101 mi_X6_init rfl rfl rfl (p_X6 (d := d) (n := n)) RO_rm rfl rfl ⟨(Nat.le_of_ble_eq_true rfl), (Nat.le_of_ble_eq_true rfl)⟩ (by decide) (Nat.le_of_ble_eq_true rfl) rfl (fun g hg => ?_)
  obtain ⟨kp, tm⟩ := hg
  refine v_putR rfl dX11_init_195 fl_RX11_104 (Or.inr ⟨rfl, rfl, rfl⟩) kd_0 (Nat.le_of_ble_eq_true rfl) ?_
  obtain ⟨f, t⟩ := st_step (s := 11) f t kp tm (by decide) (by decide +kernel)
  generalize setR g 0 (11 + 1) (some 63) = G at f t ⊢
  clear kp tm
  refine v_aload_n dX11_init_198 rfl ?_
  refine k_new (c := 0) (N := 5) (nx' := 67) (mc' := 66) (ms' := 2651) dX11_init_199 cl_0 (tb2 50 (by decide +kernel) rfl) (tb2 51 (by decide +kernel) rfl) (tb1 14 (by decide +kernel) rfl) (by decide) kd_66 rfl rfl rfl ⟨(Nat.le_of_ble_eq_true rfl), (Nat.le_of_ble_eq_true rfl)⟩ ?_
  refine v_dup dX11_init_202 rfl ?_
  refine v_aload_n dX11_init_203 rfl ?_
  refine v_getR (r := 1) dX11_init_204 fl_RX11_27 kd_0 (Nat.le_of_ble_eq_true rfl) rfl (show G.2.2 0 1 = some 1 from f.2.2 ((0, 1), 1) (by decide +kernel) (by decide)) ?_
  refine v_aload_n dX11_init_207 rfl ?_
  refine v_getR (r := 29) dX11_init_208 fl_RX11_88 kd_0 (Nat.le_of_ble_eq_true rfl) rfl (show G.2.2 0 10 = some 29 from f.2.2 ((0, 10), 29) (by decide +kernel) (by decide)) ?_
  refine v_aload_n dX11_init_211 rfl ?_
  refine v_getR (r := 40) dX11_init_212 fl_RX11_95 kd_0 (Nat.le_of_ble_eq_true rfl) rfl (show G.2.2 0 11 = some 40 from f.2.2 ((0, 11), 40) (by decide +kernel) (by decide)) ?_
  refine k_callI (mt := m_X11_init) (mc1 := 67) (ms1 := 2671) dX11_init_215 mo_X0_init ml_RX11_110 mi_X0_init rfl rfl rfl (p_X0 (d := d) (n := n)) RO_rm rfl rfl ⟨(Nat.le_of_ble_eq_true rfl), (Nat.le_of_ble_eq_true rfl)⟩ (by decide) (Nat.le_of_ble_eq_true rfl) rfl (fun g hg => ?_)
  obtain ⟨kp, tm⟩ := hg
  refine v_putR rfl dX11_init_218 fl_RX11_113 (Or.inr ⟨rfl, rfl, rfl⟩) kd_0 (Nat.le_of_ble_eq_true rfl) ?_
  obtain ⟨f, t⟩ := st_step (s := 12) f t kp tm (by decide) (by decide +kernel)
  generalize setR g 0 (12 + 1) (some 66) = G at f t ⊢
  clear kp tm
  exact v_ZA (v_vret dX11_init_221 rfl ⟨rfl, (f.tm (by decide +kernel)).join t⟩)
end KX
