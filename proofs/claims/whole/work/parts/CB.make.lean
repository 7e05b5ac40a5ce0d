/-! constructors, by program -/
section KI
variable {X : CX} {d n : Nat} {h : AH}
theorem i_X0 {Q : Option Value → AH → Prop} (hq : Q none (setR (setR (setR (setR (newH h 67) 66 3 (some 67)) 66 0 (some 1)) 66 1 (some 29)) 66 2 (some 40))) : Ki X (d + 1) m_X0_init [.ref 66, .ref 1, .ref 29, .ref 40] h 67 68 1 20 Q := by
  refine Mok.ofV mo_X0_init (Nat.le_of_ble_eq_true rfl) (L := [some (.ref 66), some (.ref 1), some (.ref 29), some (.ref 40)]) (lvLe_s (lvLe_s (lvLe_s (lvLe_s lvLe_e)))) ?_
  refine v_aload_n dX0_init_0 rfl ?_
  refine v_objInit dX0_init_1 (tb2 55 (by decide +kernel) rfl) (tb1 33 (by decide +kernel) rfl) (tb1 34 (by decide +kernel) rfl) (RO_1 RO_rm) (Nat.le_of_ble_eq_true rfl) ?_
  refine v_aload_n dX0_init_4 rfl ?_
  refine v_bipush dX0_init_5 cb_20 ?_
  refine k_newa (kc := 20) (N := 20) (nx' := 68) (mc' := 1) (ms' := 20) (atype := .int) dX0_init_7 rfl ⟨by decide, by decide⟩ (tb1 87 (by decide +kernel) rfl) (by decide) (by decide) (by decide) rfl rfl rfl rfl ⟨(Nat.le_of_ble_eq_true rfl), (Nat.le_of_ble_eq_true rfl)⟩ ?_
  refine v_putR rfl dX0_init_9 fl_RX0_9 (Or.inr ⟨rfl, rfl, rfl⟩) kd_66 (Nat.le_of_ble_eq_true rfl) ?_
  refine v_aload_n dX0_init_12 rfl ?_
  refine v_aload_n dX0_init_13 rfl ?_
  refine v_putR rfl dX0_init_14 fl_RX0_15 (Or.inr ⟨rfl, rfl, rfl⟩) kd_66 (Nat.le_of_ble_eq_true rfl) ?_
  refine v_aload_n dX0_init_17 rfl ?_
  refine v_aload_n dX0_init_18 rfl ?_
  refine v_putR rfl dX0_init_19 fl_RX0_19 (Or.inr ⟨rfl, rfl, rfl⟩) kd_66 (Nat.le_of_ble_eq_true rfl) ?_
  refine v_aload_n dX0_init_22 rfl ?_
  refine v_aload_n dX0_init_23 rfl ?_
  refine v_putR rfl dX0_init_24 fl_RX0_23 (Or.inr ⟨rfl, rfl, rfl⟩) kd_66 (Nat.le_of_ble_eq_true rfl) ?_
  exact v_vret dX0_init_27 rfl hq
theorem p_X0 : Ki X (d + 1) m_X0_init [.ref 66, .ref 1, .ref 29, .ref 40] (newH h 66) 67 68 1 20 (RV fun g => Kp 66 h g ∧ Tm n 66 68 g) := by
  refine i_X0 ⟨rfl, (((((((Kp.rfl (b := 66)).newH (by decide)).newH (by decide)).setR (by decide)).setR (by decide)).setR (by decide)).setR (by decide)), fun a h1 h2 j => ?_, fun x hx => ?_⟩
  · have : a = 66 ∨ a = 67 := by omega
    rcases this with rfl | rfl <;> rfl
  · revert x
    show ∀ x ∈ [((66, 0), 1), ((66, 1), 29), ((66, 2), 40), ((66, 3), 67)], (setR (setR (setR (setR (newH (newH h 66) 67) 66 3 (some 67)) 66 0 (some 1)) 66 1 (some 29)) 66 2 (some 40)).2.2 x.1.1 x.1.2 = some x.2
    exact (List.forall_mem_cons.mpr ⟨rfl, (List.forall_mem_cons.mpr ⟨rfl, (List.forall_mem_cons.mpr ⟨rfl, (List.forall_mem_cons.mpr ⟨rfl, (List.forall_mem_nil _)⟩)⟩)⟩)⟩)
theorem i_X1 {Q : Option Value → AH → Prop} (hq : Q none (setR h 20 0 (some 1))) : Ki X (d + 1) m_X1_init [.ref 20, .ref 1] h 21 21 0 0 Q := by
  refine Mok.ofV mo_X1_init (Nat.le_of_ble_eq_true rfl) (L := [some (.ref 20), some (.ref 1)]) (lvLe_s (lvLe_s lvLe_e)) ?_
  refine v_aload_n dX1_init_0 rfl ?_
  refine v_objInit dX1_init_1 (tb1 122 (by decide +kernel) rfl) (tb1 33 (by decide +kernel) rfl) (tb1 34 (by decide +kernel) rfl) (RO_1 RO_rm) (Nat.le_of_ble_eq_true rfl) ?_
  refine v_aload_n dX1_init_4 rfl ?_
  refine v_aload_n dX1_init_5 rfl ?_
  refine v_putR rfl dX1_init_6 fl_RX1_9 (Or.inr ⟨rfl, rfl, rfl⟩) kd_20 (Nat.le_of_ble_eq_true rfl) ?_
  exact v_vret dX1_init_9 rfl hq
theorem p_X1 : Ki X (d + 1) m_X1_init [.ref 20, .ref 1] (newH h 20) 21 21 0 0 (RV fun g => Kp 20 h g ∧ Tm n 20 21 g) := by
  refine i_X1 ⟨rfl, (((Kp.rfl (b := 20)).newH (by decide)).setR (by decide)), fun a h1 h2 j => ?_, fun x hx => ?_⟩
  · have : a = 20 := by omega
    subst this
    rfl
  · revert x
    show ∀ x ∈ [((20, 0), 1)], (setR (newH h 20) 20 0 (some 1)).2.2 x.1.1 x.1.2 = some x.2
    exact (List.forall_mem_cons.mpr ⟨rfl, (List.forall_mem_nil _)⟩)
theorem i_X2 {Q : Option Value → AH → Prop} (hq : Q none (setR (setR (newH (setR (newM h 41 20) 40 1 (some 41)) 62) 40 2 (some 62)) 40 0 (some 1))) : KiO X (d + 1) m_X2_init [.ref 40, .ref 1] h 41 63 22 440 Q := by
  refine MokO.ofV mo_X2_init (Nat.le_of_ble_eq_true rfl) (L := [some (.ref 40), some (.ref 1)]) (lvLe_s (lvLe_s lvLe_e)) ?_
  refine v_aload_n dX2_init_0 rfl ?_
  refine v_objInit dX2_init_1 (tb1 229 (by decide +kernel) rfl) (tb1 33 (by decide +kernel) rfl) (tb1 34 (by decide +kernel) rfl) (RO_1 RO_rm) (Nat.le_of_ble_eq_true rfl) ?_
  refine v_aload_n dX2_init_4 rfl ?_
  refine v_bipush dX2_init_5 cb_20 ?_
  refine v_bipush dX2_init_7 cb_20 ?_
  refine k_mna (N := 20) (K := 20) (nx' := 62) (mc' := 21) (ms' := 420) dX2_init_9 (tb1 230 (by decide +kernel) rfl) (tb1 87 (by decide +kernel) rfl) (by decide) (by decide) (by decide) (by decide) (by decide) (by decide) rfl (fun i hi => (kd_ne (by omega)).trans ((by decide : ∀ i, i < 20 → kd0 (41 + 1 + i) = (20, 20)) i hi)) (by decide) rfl rfl rfl ⟨(Nat.le_of_ble_eq_true rfl), (Nat.le_of_ble_eq_true rfl)⟩ ?_
  refine v_putR rfl dX2_init_13 fl_RX2_11 (Or.inr ⟨rfl, rfl, rfl⟩) kd_40 (Nat.le_of_ble_eq_true rfl) ?_
  refine v_aload_n dX2_init_16 rfl ?_
  refine v_bipush dX2_init_17 cb_20 ?_
  refine k_newa (kc := 20) (N := 20) (nx' := 63) (mc' := 22) (ms' := 440) (atype := .int) dX2_init_19 rfl ⟨by decide, by decide⟩ (tb1 87 (by decide +kernel) rfl) (by decide) (by decide) (by decide) rfl rfl rfl rfl ⟨(Nat.le_of_ble_eq_true rfl), (Nat.le_of_ble_eq_true rfl)⟩ ?_
  refine v_putR rfl dX2_init_21 fl_RX2_16 (Or.inr ⟨rfl, rfl, rfl⟩) kd_40 (Nat.le_of_ble_eq_true rfl) ?_
  refine v_aload_n dX2_init_24 rfl ?_
  refine v_aload_n dX2_init_25 rfl ?_
  refine v_putR rfl dX2_init_26 fl_RX2_20 (Or.inr ⟨rfl, rfl, rfl⟩) kd_40 (Nat.le_of_ble_eq_true rfl) ?_
  exact v_ZA (v_vret dX2_init_29 rfl hq)
theorem p_X2 : KiO X (d + 1) m_X2_init [.ref 40, .ref 1] (newH h 40) 41 63 22 440 (RV fun g => Kp 40 h g ∧ Tm n 40 63 g) := by
  refine i_X2 ⟨rfl, (((((((Kp.rfl (b := 40)).newH (by decide)).newM (by decide)).setR (by decide)).newH (by decide)).setR (by decide)).setR (by decide)), fun a h1 h2 j => ?_, fun x hx => ?_⟩
  · have : a = 40 ∨ a = 41 ∨ a = 42 ∨ a = 43 ∨ a = 44 ∨ a = 45 ∨ a = 46 ∨ a = 47 ∨ a = 48 ∨ a = 49 ∨ a = 50 ∨ a = 51 ∨ a = 52 ∨ a = 53 ∨ a = 54 ∨ a = 55 ∨ a = 56 ∨ a = 57 ∨ a = 58 ∨ a = 59 ∨ a = 60 ∨ a = 61 ∨ a = 62 := by omega
    rcases this with rfl | rfl | rfl | rfl | rfl | rfl | rfl | rfl | rfl | rfl | rfl | rfl | rfl | rfl | rfl | rfl | rfl | rfl | rfl | rfl | rfl | rfl | rfl <;> rfl
  · revert x
    show ∀ x ∈ [((40, 0), 1), ((40, 1), 41), ((40, 2), 62), ((41, 0), 42), ((41, 1), 43), ((41, 2), 44), ((41, 3), 45), ((41, 4), 46), ((41, 5), 47), ((41, 6), 48), ((41, 7), 49), ((41, 8), 50), ((41, 9), 51), ((41, 10), 52), ((41, 11), 53), ((41, 12), 54), ((41, 13), 55), ((41, 14), 56), ((41, 15), 57), ((41, 16), 58), ((41, 17), 59), ((41, 18), 60), ((41, 19), 61)], (setR (setR (newH (setR (newM (newH h 40) 41 20) 40 1 (some 41)) 62) 40 2 (some 62)) 40 0 (some 1)).2.2 x.1.1 x.1.2 = some x.2
    exact (List.forall_mem_cons.mpr ⟨rfl, (List.forall_mem_cons.mpr ⟨rfl, (List.forall_mem_cons.mpr ⟨rfl, (List.forall_mem_cons.mpr ⟨rfl, (List.forall_mem_cons.mpr ⟨rfl, (List.forall_mem_cons.mpr ⟨rfl, (List.forall_mem_cons.mpr ⟨rfl, (List.forall_mem_cons.mpr ⟨rfl, (List.forall_mem_cons.mpr ⟨rfl, (List.forall_mem_cons.mpr ⟨rfl, (List.forall_mem_cons.mpr ⟨rfl, (List.forall_mem_cons.mpr ⟨rfl, (List.forall_mem_cons.mpr ⟨rfl, (List.forall_mem_cons.mpr ⟨rfl, (List.forall_mem_cons.mpr ⟨rfl, (List.forall_mem_cons.mpr ⟨rfl, (List.forall_mem_cons.mpr ⟨rfl, (List.forall_mem_cons.mpr ⟨rfl, (List.forall_mem_cons.mpr ⟨rfl, (List.forall_mem_cons.mpr ⟨rfl, (List.forall_mem_cons.mpr ⟨rfl, (List.forall_mem_cons.mpr ⟨rfl, (List.forall_mem_cons.mpr ⟨rfl, (List.forall_mem_nil _)⟩)⟩)⟩)⟩)⟩)⟩)⟩)⟩)⟩)⟩)⟩)⟩)⟩)⟩)⟩)⟩)⟩)⟩)⟩)⟩)⟩)⟩)⟩)
theorem i_X4 {Q : Option Value → AH → Prop} (hq : Q none (setR (setR (setR (newH h 26) 25 2 (some 26)) 25 0 (some 23)) 25 1 (some 1))) : Ki X (d + 1) m_X4_init [.ref 25, .ref 23, .ref 1] h 26 27 1 20 Q := by
  refine Mok.ofV mo_X4_init (Nat.le_of_ble_eq_true rfl) (L := [some (.ref 25), some (.ref 23), some (.ref 1)]) (lvLe_s (lvLe_s (lvLe_s lvLe_e))) ?_
  refine v_aload_n dX4_init_0 rfl ?_
  refine v_objInit dX4_init_1 (tb1 161 (by decide +kernel) rfl) (tb1 33 (by decide +kernel) rfl) (tb1 34 (by decide +kernel) rfl) (RO_1 RO_rm) (Nat.le_of_ble_eq_true rfl) ?_
  refine v_aload_n dX4_init_4 rfl ?_
  refine v_bipush dX4_init_5 cb_20 ?_
  refine k_newa (kc := 20) (N := 20) (nx' := 27) (mc' := 1) (ms' := 20) (atype := .int) dX4_init_7 rfl ⟨by decide, by decide⟩ (tb1 87 (by decide +kernel) rfl) (by decide) (by decide) (by decide) rfl rfl rfl rfl ⟨(Nat.le_of_ble_eq_true rfl), (Nat.le_of_ble_eq_true rfl)⟩ ?_
  refine v_putR rfl dX4_init_9 fl_RX4_9 (Or.inr ⟨rfl, rfl, rfl⟩) kd_25 (Nat.le_of_ble_eq_true rfl) ?_
  refine v_aload_n dX4_init_12 rfl ?_
  refine v_aload_n dX4_init_13 rfl ?_
  refine v_putR rfl dX4_init_14 fl_RX4_15 (Or.inr ⟨rfl, rfl, rfl⟩) kd_25 (Nat.le_of_ble_eq_true rfl) ?_
  refine v_aload_n dX4_init_17 rfl ?_
  refine v_aload_n dX4_init_18 rfl ?_
  refine v_putR rfl dX4_init_19 fl_RX4_19 (Or.inr ⟨rfl, rfl, rfl⟩) kd_25 (Nat.le_of_ble_eq_true rfl) ?_
  exact v_vret dX4_init_22 rfl hq
theorem p_X4 : Ki X (d + 1) m_X4_init [.ref 25, .ref 23, .ref 1] (newH h 25) 26 27 1 20 (RV fun g => Kp 25 h g ∧ Tm n 25 27 g) := by
  refine i_X4 ⟨rfl, ((((((Kp.rfl (b := 25)).newH (by decide)).newH (by decide)).setR (by decide)).setR (by decide)).setR (by decide)), fun a h1 h2 j => ?_, fun x hx => ?_⟩
  · have : a = 25 ∨ a = 26 := by omega
    rcases this with rfl | rfl <;> rfl
  · revert x
    show ∀ x ∈ [((25, 0), 23), ((25, 1), 1), ((25, 2), 26)], (setR (setR (setR (newH (newH h 25) 26) 25 2 (some 26)) 25 0 (some 23)) 25 1 (some 1)).2.2 x.1.1 x.1.2 = some x.2
    exact (List.forall_mem_cons.mpr ⟨rfl, (List.forall_mem_cons.mpr ⟨rfl, (List.forall_mem_cons.mpr ⟨rfl, (List.forall_mem_nil _)⟩)⟩)⟩)
theorem i_X5 {Q : Option Value → AH → Prop} (hq : Q none (setR (setR (newH (setR (newH (setR (newH (setR (newH (setR (newH (setR (newH h 14) 13 1 (some 14)) 15) 13 2 (some 15)) 16) 13 3 (some 16)) 17) 13 4 (some 17)) 18) 13 5 (some 18)) 19) 13 6 (some 19)) 13 0 (some 1))) : Ki X (d + 1) m_X5_init [.ref 13, .ref 1] h 14 20 6 180 Q := by
  refine Mok.ofV mo_X5_init (Nat.le_of_ble_eq_true rfl) (L := [some (.ref 13), some (.ref 1)]) (lvLe_s (lvLe_s lvLe_e)) ?_
  refine v_aload_n dX5_init_0 rfl ?_
  refine v_objInit dX5_init_1 (tb1 93 (by decide +kernel) rfl) (tb1 33 (by decide +kernel) rfl) (tb1 34 (by decide +kernel) rfl) (RO_1 RO_rm) (Nat.le_of_ble_eq_true rfl) ?_
  refine v_aload_n dX5_init_4 rfl ?_
  refine v_bipush dX5_init_5 cb_20 ?_
  refine k_newa (kc := 23) (N := 20) (nx' := 15) (mc' := 1) (ms' := 20) (atype := .long) dX5_init_7 rfl ⟨by decide, by decide⟩ (tb1 116 (by decide +kernel) rfl) (by decide) (by decide) (by decide) rfl rfl rfl rfl ⟨(Nat.le_of_ble_eq_true rfl), (Nat.le_of_ble_eq_true rfl)⟩ ?_
  refine v_putR rfl dX5_init_9 fl_RX5_9 (Or.inr ⟨rfl, rfl, rfl⟩) kd_13 (Nat.le_of_ble_eq_true rfl) ?_
  refine v_aload_n dX5_init_12 rfl ?_
  refine v_bipush dX5_init_13 cb_20 ?_
  refine k_newa (kc := 20) (N := 20) (nx' := 16) (mc' := 2) (ms' := 40) (atype := .int) dX5_init_15 rfl ⟨by decide, by decide⟩ (tb1 87 (by decide +kernel) rfl) (by decide) (by decide) (by decide) rfl rfl rfl rfl ⟨(Nat.le_of_ble_eq_true rfl), (Nat.le_of_ble_eq_true rfl)⟩ ?_
  refine v_putR rfl dX5_init_17 fl_RX5_15 (Or.inr ⟨rfl, rfl, rfl⟩) kd_13 (Nat.le_of_ble_eq_true rfl) ?_
  refine v_aload_n dX5_init_20 rfl ?_
  refine v_bipush dX5_init_21 cb_20 ?_
  refine k_newa (kc := 20) (N := 20) (nx' := 17) (mc' := 3) (ms' := 60) (atype := .int) dX5_init_23 rfl ⟨by decide, by decide⟩ (tb1 87 (by decide +kernel) rfl) (by decide) (by decide) (by decide) rfl rfl rfl rfl ⟨(Nat.le_of_ble_eq_true rfl), (Nat.le_of_ble_eq_true rfl)⟩ ?_
  refine v_putR rfl dX5_init_25 fl_RX5_19 (Or.inr ⟨rfl, rfl, rfl⟩) kd_13 (Nat.le_of_ble_eq_true rfl) ?_
  refine v_aload_n dX5_init_28 rfl ?_
  refine v_bipush dX5_init_29 cb_40 ?_
  refine k_newa (kc := 23) (N := 40) (nx' := 18) (mc' := 4) (ms' := 100) (atype := .long) dX5_init_31 rfl ⟨by decide, by decide⟩ (tb1 116 (by decide +kernel) rfl) (by decide) (by decide) (by decide) rfl rfl rfl rfl ⟨(Nat.le_of_ble_eq_true rfl), (Nat.le_of_ble_eq_true rfl)⟩ ?_
  refine v_putR rfl dX5_init_33 fl_RX5_22 (Or.inr ⟨rfl, rfl, rfl⟩) kd_13 (Nat.le_of_ble_eq_true rfl) ?_
  refine v_aload_n dX5_init_36 rfl ?_
  refine v_bipush dX5_init_37 cb_40 ?_
  refine k_newa (kc := 20) (N := 40) (nx' := 19) (mc' := 5) (ms' := 140) (atype := .int) dX5_init_39 rfl ⟨by decide, by decide⟩ (tb1 87 (by decide +kernel) rfl) (by decide) (by decide) (by decide) rfl rfl rfl rfl ⟨(Nat.le_of_ble_eq_true rfl), (Nat.le_of_ble_eq_true rfl)⟩ ?_
  refine v_putR rfl dX5_init_41 fl_RX5_25 (Or.inr ⟨rfl, rfl, rfl⟩) kd_13 (Nat.le_of_ble_eq_true rfl) ?_
  refine v_aload_n dX5_init_44 rfl ?_
  refine v_bipush dX5_init_45 cb_40 ?_
  refine k_newa (kc := 20) (N := 40) (nx' := 20) (mc' := 6) (ms' := 180) (atype := .int) dX5_init_47 rfl ⟨by decide, by decide⟩ (tb1 87 (by decide +kernel) rfl) (by decide) (by decide) (by decide) rfl rfl rfl rfl ⟨(Nat.le_of_ble_eq_true rfl), (Nat.le_of_ble_eq_true rfl)⟩ ?_
  refine v_putR rfl dX5_init_49 fl_RX5_28 (Or.inr ⟨rfl, rfl, rfl⟩) kd_13 (Nat.le_of_ble_eq_true rfl) ?_
  refine v_aload_n dX5_init_52 rfl ?_
  refine v_aload_n dX5_init_53 rfl ?_
  refine v_putR rfl dX5_init_54 fl_RX5_31 (Or.inr ⟨rfl, rfl, rfl⟩) kd_13 (Nat.le_of_ble_eq_true rfl) ?_
  exact v_vret dX5_init_57 rfl hq
theorem p_X5 : Ki X (d + 1) m_X5_init [.ref 13, .ref 1] (newH h 13) 14 20 6 180 (RV fun g => Kp 13 h g ∧ Tm n 13 20 g) := by
  refine i_X5 ⟨rfl, (((((((((((((((Kp.rfl (b := 13)).newH (by decide)).newH (by decide)).setR (by decide)).newH (by decide)).setR (by decide)).newH (by decide)).setR (by decide)).newH (by decide)).setR (by decide)).newH (by decide)).setR (by decide)).newH (by decide)).setR (by decide)).setR (by decide)), fun a h1 h2 j => ?_, fun x hx => ?_⟩
  · have : a = 13 ∨ a = 14 ∨ a = 15 ∨ a = 16 ∨ a = 17 ∨ a = 18 ∨ a = 19 := by omega
    rcases this with rfl | rfl | rfl | rfl | rfl | rfl | rfl <;> rfl
  · revert x
    show ∀ x ∈ [((13, 0), 1), ((13, 1), 14), ((13, 2), 15), ((13, 3), 16), ((13, 4), 17), ((13, 5), 18), ((13, 6), 19)], (setR (setR (newH (setR (newH (setR (newH (setR (newH (setR (newH (setR (newH (newH h 13) 14) 13 1 (some 14)) 15) 13 2 (some 15)) 16) 13 3 (some 16)) 17) 13 4 (some 17)) 18) 13 5 (some 18)) 19) 13 6 (some 19)) 13 0 (some 1)).2.2 x.1.1 x.1.2 = some x.2
    exact (List.forall_mem_cons.mpr ⟨rfl, (List.forall_mem_cons.mpr ⟨rfl, (List.forall_mem_cons.mpr ⟨rfl, (List.forall_mem_cons.mpr ⟨rfl, (List.forall_mem_cons.mpr ⟨rfl, (List.forall_mem_cons.mpr ⟨rfl, (List.forall_mem_cons.mpr ⟨rfl, (List.forall_mem_nil _)⟩)⟩)⟩)⟩)⟩)⟩)⟩)
theorem i_X6 {Q : Option Value → AH → Prop} (hq : Q none (setR (setR (setR (newH (setR (newH h 64) 63 2 (some 64)) 65) 63 3 (some 65)) 63 0 (some 1)) 63 1 (some 29))) : Ki X (d + 1) m_X6_init [.ref 63, .ref 1, .ref 29] h 64 66 2 81 Q := by
  refine Mok.ofV mo_X6_init (Nat.le_of_ble_eq_true rfl) (L := [some (.ref 63), some (.ref 1), some (.ref 29)]) (lvLe_s (lvLe_s (lvLe_s lvLe_e))) ?_
  refine v_aload_n dX6_init_0 rfl ?_
  refine v_objInit dX6_init_1 (tb2 31 (by decide +kernel) rfl) (tb1 33 (by decide +kernel) rfl) (tb1 34 (by decide +kernel) rfl) (RO_1 RO_rm) (Nat.le_of_ble_eq_true rfl) ?_
  refine v_aload_n dX6_init_4 rfl ?_
  refine v_bipush dX6_init_5 cb_20 ?_
  refine k_newa (kc := 20) (N := 20) (nx' := 65) (mc' := 1) (ms' := 20) (atype := .int) dX6_init_7 rfl ⟨by decide, by decide⟩ (tb1 87 (by decide +kernel) rfl) (by decide) (by decide) (by decide) rfl rfl rfl rfl ⟨(Nat.le_of_ble_eq_true rfl), (Nat.le_of_ble_eq_true rfl)⟩ ?_
  refine v_putR rfl dX6_init_9 fl_RX6_9 (Or.inr ⟨rfl, rfl, rfl⟩) kd_63 (Nat.le_of_ble_eq_true rfl) ?_
  refine v_aload_n dX6_init_12 rfl ?_
  refine v_bipush dX6_init_13 cb_61 ?_
  refine k_newa (kc := 20) (N := 61) (nx' := 66) (mc' := 2) (ms' := 81) (atype := .int) dX6_init_15 rfl ⟨by decide, by decide⟩ (tb1 87 (by decide +kernel) rfl) (by decide) (by decide) (by decide) rfl rfl rfl rfl ⟨(Nat.le_of_ble_eq_true rfl), (Nat.le_of_ble_eq_true rfl)⟩ ?_
  refine v_putR rfl dX6_init_17 fl_RX6_15 (Or.inr ⟨rfl, rfl, rfl⟩) kd_63 (Nat.le_of_ble_eq_true rfl) ?_
  refine v_aload_n dX6_init_20 rfl ?_
  refine v_aload_n dX6_init_21 rfl ?_
  refine v_putR rfl dX6_init_22 fl_RX6_18 (Or.inr ⟨rfl, rfl, rfl⟩) kd_63 (Nat.le_of_ble_eq_true rfl) ?_
  refine v_aload_n dX6_init_25 rfl ?_
  refine v_aload_n dX6_init_26 rfl ?_
  refine v_putR rfl dX6_init_27 fl_RX6_22 (Or.inr ⟨rfl, rfl, rfl⟩) kd_63 (Nat.le_of_ble_eq_true rfl) ?_
  exact v_vret dX6_init_30 rfl hq
theorem p_X6 : Ki X (d + 1) m_X6_init [.ref 63, .ref 1, .ref 29] (newH h 63) 64 66 2 81 (RV fun g => Kp 63 h g ∧ Tm n 63 66 g) := by
  refine i_X6 ⟨rfl, ((((((((Kp.rfl (b := 63)).newH (by decide)).newH (by decide)).setR (by decide)).newH (by decide)).setR (by decide)).setR (by decide)).setR (by decide)), fun a h1 h2 j => ?_, fun x hx => ?_⟩
  · have : a = 63 ∨ a = 64 ∨ a = 65 := by omega
    rcases this with rfl | rfl | rfl <;> rfl
  · revert x
    show ∀ x ∈ [((63, 0), 1), ((63, 1), 29), ((63, 2), 64), ((63, 3), 65)], (setR (setR (setR (newH (setR (newH (newH h 63) 64) 63 2 (some 64)) 65) 63 3 (some 65)) 63 0 (some 1)) 63 1 (some 29)).2.2 x.1.1 x.1.2 = some x.2
    exact (List.forall_mem_cons.mpr ⟨rfl, (List.forall_mem_cons.mpr ⟨rfl, (List.forall_mem_cons.mpr ⟨rfl, (List.forall_mem_cons.mpr ⟨rfl, (List.forall_mem_nil _)⟩)⟩)⟩)⟩)
theorem i_X7 {Q : Option Value → AH → Prop} (hq : Q none (setR (setR (newH h 28) 27 1 (some 28)) 27 0 (some 23))) : Ki X (d + 1) m_X7_init [.ref 27, .ref 23] h 28 29 1 200 Q := by
  refine Mok.ofV mo_X7_init (Nat.le_of_ble_eq_true rfl) (L := [some (.ref 27), some (.ref 23)]) (lvLe_s (lvLe_s lvLe_e)) ?_
  refine v_aload_n dX7_init_0 rfl ?_
  refine v_objInit dX7_init_1 (tb1 178 (by decide +kernel) rfl) (tb1 33 (by decide +kernel) rfl) (tb1 34 (by decide +kernel) rfl) (RO_1 RO_rm) (Nat.le_of_ble_eq_true rfl) ?_
  refine v_aload_n dX7_init_4 rfl ?_
  refine v_sipush dX7_init_5 cs_200 ?_
  refine k_newa (kc := 20) (N := 200) (nx' := 29) (mc' := 1) (ms' := 200) (atype := .int) dX7_init_8 rfl ⟨by decide, by decide⟩ (tb1 87 (by decide +kernel) rfl) (by decide) (by decide) (by decide) rfl rfl rfl rfl ⟨(Nat.le_of_ble_eq_true rfl), (Nat.le_of_ble_eq_true rfl)⟩ ?_
  refine v_putR rfl dX7_init_10 fl_RX7_9 (Or.inr ⟨rfl, rfl, rfl⟩) kd_27 (Nat.le_of_ble_eq_true rfl) ?_
  refine v_aload_n dX7_init_13 rfl ?_
  refine v_aload_n dX7_init_14 rfl ?_
  refine v_putR rfl dX7_init_15 fl_RX7_15 (Or.inr ⟨rfl, rfl, rfl⟩) kd_27 (Nat.le_of_ble_eq_true rfl) ?_
  exact v_vret dX7_init_18 rfl hq
theorem p_X7 : Ki X (d + 1) m_X7_init [.ref 27, .ref 23] (newH h 27) 28 29 1 200 (RV fun g => Kp 27 h g ∧ Tm n 27 29 g) := by
  refine i_X7 ⟨rfl, (((((Kp.rfl (b := 27)).newH (by decide)).newH (by decide)).setR (by decide)).setR (by decide)), fun a h1 h2 j => ?_, fun x hx => ?_⟩
  · have : a = 27 ∨ a = 28 := by omega
    rcases this with rfl | rfl <;> rfl
  · revert x
    show ∀ x ∈ [((27, 0), 23), ((27, 1), 28)], (setR (setR (newH (newH h 27) 28) 27 1 (some 28)) 27 0 (some 23)).2.2 x.1.1 x.1.2 = some x.2
    exact (List.forall_mem_cons.mpr ⟨rfl, (List.forall_mem_cons.mpr ⟨rfl, (List.forall_mem_nil _)⟩)⟩)
theorem i_X8 {Q : Option Value → AH → Prop} (hq : Q none (setR (newH (setR (newH (setR (newH (setR (newM h 30 6) 29 0 (some 30)) 37) 29 1 (some 37)) 38) 29 2 (some 38)) 39) 29 3 (some 39))) : KiO X (d + 1) m_X8_init [.ref 29] h 30 40 10 1269 Q := by
  refine MokO.ofV mo_X8_init (Nat.le_of_ble_eq_true rfl) (L := [some (.ref 29)]) (lvLe_s lvLe_e) ?_
  refine v_aload_n dX8_init_0 rfl ?_
  refine v_objInit dX8_init_1 (tb1 202 (by decide +kernel) rfl) (tb1 33 (by decide +kernel) rfl) (tb1 34 (by decide +kernel) rfl) (RO_1 RO_rm) (Nat.le_of_ble_eq_true rfl) ?_
  refine v_aload_n dX8_init_4 rfl ?_
  refine v_bipush dX8_init_5 cb_6 ?_
  refine v_sipush dX8_init_7 cs_200 ?_
  refine k_mna (N := 6) (K := 200) (nx' := 37) (mc' := 7) (ms' := 1206) dX8_init_10 (tb1 203 (by decide +kernel) rfl) (tb1 87 (by decide +kernel) rfl) (by decide) (by decide) (by decide) (by decide) (by decide) (by decide) rfl (fun i hi => (kd_ne (by omega)).trans ((by decide : ∀ i, i < 6 → kd0 (30 + 1 + i) = (20, 200)) i hi)) (by decide) rfl rfl rfl ⟨(Nat.le_of_ble_eq_true rfl), (Nat.le_of_ble_eq_true rfl)⟩ ?_
  refine v_putR rfl dX8_init_14 fl_RX8_11 (Or.inr ⟨rfl, rfl, rfl⟩) kd_29 (Nat.le_of_ble_eq_true rfl) ?_
  refine v_aload_n dX8_init_17 rfl ?_
  refine v_bipush dX8_init_18 cb_6 ?_
  refine k_newa (kc := 20) (N := 6) (nx' := 38) (mc' := 8) (ms' := 1212) (atype := .int) dX8_init_20 rfl ⟨by decide, by decide⟩ (tb1 87 (by decide +kernel) rfl) (by decide) (by decide) (by decide) rfl rfl rfl rfl ⟨(Nat.le_of_ble_eq_true rfl), (Nat.le_of_ble_eq_true rfl)⟩ ?_
  refine v_putR rfl dX8_init_22 fl_RX8_16 (Or.inr ⟨rfl, rfl, rfl⟩) kd_29 (Nat.le_of_ble_eq_true rfl) ?_
  refine v_aload_n dX8_init_25 rfl ?_
  refine v_bipush dX8_init_26 cb_48 ?_
  refine k_newa (kc := 20) (N := 48) (nx' := 39) (mc' := 9) (ms' := 1260) (atype := .int) dX8_init_28 rfl ⟨by decide, by decide⟩ (tb1 87 (by decide +kernel) rfl) (by decide) (by decide) (by decide) rfl rfl rfl rfl ⟨(Nat.le_of_ble_eq_true rfl), (Nat.le_of_ble_eq_true rfl)⟩ ?_
  refine v_putR rfl dX8_init_30 fl_RX8_20 (Or.inr ⟨rfl, rfl, rfl⟩) kd_29 (Nat.le_of_ble_eq_true rfl) ?_
  refine v_aload_n dX8_init_33 rfl ?_
  refine v_bipush dX8_init_34 cb_9 ?_
  refine k_newa (kc := 20) (N := 9) (nx' := 40) (mc' := 10) (ms' := 1269) (atype := .int) dX8_init_36 rfl ⟨by decide, by decide⟩ (tb1 87 (by decide +kernel) rfl) (by decide) (by decide) (by decide) rfl rfl rfl rfl ⟨(Nat.le_of_ble_eq_true rfl), (Nat.le_of_ble_eq_true rfl)⟩ ?_
  refine v_putR rfl dX8_init_38 fl_RX8_23 (Or.inr ⟨rfl, rfl, rfl⟩) kd_29 (Nat.le_of_ble_eq_true rfl) ?_
  exact v_ZA (v_vret dX8_init_41 rfl hq)
theorem p_X8 : KiO X (d + 1) m_X8_init [.ref 29] (newH h 29) 30 40 10 1269 (RV fun g => Kp 29 h g ∧ Tm n 29 40 g) := by
  refine i_X8 ⟨rfl, ((((((((((Kp.rfl (b := 29)).newH (by decide)).newM (by decide)).setR (by decide)).newH (by decide)).setR (by decide)).newH (by decide)).setR (by decide)).newH (by decide)).setR (by decide)), fun a h1 h2 j => ?_, fun x hx => ?_⟩
  · have : a = 29 ∨ a = 30 ∨ a = 31 ∨ a = 32 ∨ a = 33 ∨ a = 34 ∨ a = 35 ∨ a = 36 ∨ a = 37 ∨ a = 38 ∨ a = 39 := by omega
    rcases this with rfl | rfl | rfl | rfl | rfl | rfl | rfl | rfl | rfl | rfl | rfl <;> rfl
  · revert x
    show ∀ x ∈ [((29, 0), 30), ((29, 1), 37), ((29, 2), 38), ((29, 3), 39), ((30, 0), 31), ((30, 1), 32), ((30, 2), 33), ((30, 3), 34), ((30, 4), 35), ((30, 5), 36)], (setR (newH (setR (newH (setR (newH (setR (newM (newH h 29) 30 6) 29 0 (some 30)) 37) 29 1 (some 37)) 38) 29 2 (some 38)) 39) 29 3 (some 39)).2.2 x.1.1 x.1.2 = some x.2
    exact (List.forall_mem_cons.mpr ⟨rfl, (List.forall_mem_cons.mpr ⟨rfl, (List.forall_mem_cons.mpr ⟨rfl, (List.forall_mem_cons.mpr ⟨rfl, (List.forall_mem_cons.mpr ⟨rfl, (List.forall_mem_cons.mpr ⟨rfl, (List.forall_mem_cons.mpr ⟨rfl, (List.forall_mem_cons.mpr ⟨rfl, (List.forall_mem_cons.mpr ⟨rfl, (List.forall_mem_cons.mpr ⟨rfl, (List.forall_mem_nil _)⟩)⟩)⟩)⟩)⟩)⟩)⟩)⟩)⟩)⟩)
theorem i_X9 {Q : Option Value → AH → Prop} (hX : nX X = n) (h20 : n ≤ 20) (hp : h.1 1 0 = nI n) (hq : Q none (setR (newH (setR h 21 0 (some 1)) 22) 21 1 (some 22))) : Ki X (d + 1) m_X9_init [.ref 21, .ref 1] h 22 23 1 22 Q := by
  refine Mok.ofV mo_X9_init (Nat.le_of_ble_eq_true rfl) (L := [some (.ref 21), some (.ref 1)]) (lvLe_s (lvLe_s lvLe_e)) ?_
  refine v_aload_n dX9_init_0 rfl ?_
  refine v_objInit dX9_init_1 (tb1 132 (by decide +kernel) rfl) (tb1 33 (by decide +kernel) rfl) (tb1 34 (by decide +kernel) rfl) (RO_1 RO_rm) (Nat.le_of_ble_eq_true rfl) ?_
  refine v_aload_n dX9_init_4 rfl ?_
  refine v_aload_n dX9_init_5 rfl ?_
  refine v_putR rfl dX9_init_6 fl_RX9_9 (Or.inr ⟨rfl, rfl, rfl⟩) kd_21 (Nat.le_of_ble_eq_true rfl) ?_
  refine v_aload_n dX9_init_9 rfl ?_
  refine v_aload_n dX9_init_10 rfl ?_
  refine v_getI dX9_init_11 fl_RX9_15 kd_1 (Nat.le_of_ble_eq_true rfl) rfl ?_
  rw [show (setR h 21 0 (some 1)).1 1 0 = nI n from hp]
  refine k_newa (kc := 20) (N := n) (nx' := 23) (mc' := 1) (ms' := n) (atype := .int) dX9_init_14 rfl ⟨by decide, by decide⟩ (tb1 87 (by decide +kernel) rfl) (nI_pos (by omega)) (tN (by omega)) (by omega) (kd_22.trans (by rw [hX])) rfl rfl (Nat.zero_add n) ⟨(Nat.le_of_ble_eq_true rfl), (show n ≤ 22 by omega)⟩ ?_
  refine v_putR rfl dX9_init_16 fl_RX9_21 (Or.inr ⟨rfl, rfl, rfl⟩) kd_21 (Nat.le_of_ble_eq_true rfl) ?_
  exact v_wideS (ms' := 22) (by omega) (v_vret dX9_init_19 rfl hq)
theorem p_X9 (hX : nX X = n) (h20 : n ≤ 20) (hp : h.1 1 0 = nI n) : Ki X (d + 1) m_X9_init [.ref 21, .ref 1] (newH h 21) 22 23 1 22 (RV fun g => Kp 21 h g ∧ Tm n 21 23 g) := by
  refine i_X9 hX h20 hp ⟨rfl, (((((Kp.rfl (b := 21)).newH (by decide)).setR (by decide)).newH (by decide)).setR (by decide)), fun a h1 h2 j => ?_, fun x hx => ?_⟩
  · have : a = 21 ∨ a = 22 := by omega
    rcases this with rfl | rfl <;> rfl
  · revert x
    show ∀ x ∈ [((21, 0), 1), ((21, 1), 22)], (setR (newH (setR (newH h 21) 21 0 (some 1)) 22) 21 1 (some 22)).2.2 x.1.1 x.1.2 = some x.2
    exact (List.forall_mem_cons.mpr ⟨rfl, (List.forall_mem_cons.mpr ⟨rfl, (List.forall_mem_nil _)⟩)⟩)
theorem i_X10 {Q : Option Value → AH → Prop} (hq : Q none (setR (newH h 24) 23 0 (some 24))) : Ki X (d + 1) m_X10_init [.ref 23] h 24 25 1 200 Q := by
  refine Mok.ofV mo_X10_init (Nat.le_of_ble_eq_true rfl) (L := [some (.ref 23)]) (lvLe_s lvLe_e) ?_
  refine v_aload_n dX10_init_0 rfl ?_
  refine v_objInit dX10_init_1 (tb1 145 (by decide +kernel) rfl) (tb1 33 (by decide +kernel) rfl) (tb1 34 (by decide +kernel) rfl) (RO_1 RO_rm) (Nat.le_of_ble_eq_true rfl) ?_
  refine v_aload_n dX10_init_4 rfl ?_
  refine v_sipush dX10_init_5 cs_200 ?_
  refine k_newa (kc := 20) (N := 200) (nx' := 25) (mc' := 1) (ms' := 200) (atype := .int) dX10_init_8 rfl ⟨by decide, by decide⟩ (tb1 87 (by decide +kernel) rfl) (by decide) (by decide) (by decide) rfl rfl rfl rfl ⟨(Nat.le_of_ble_eq_true rfl), (Nat.le_of_ble_eq_true rfl)⟩ ?_
  refine v_putR rfl dX10_init_10 fl_RX10_9 (Or.inr ⟨rfl, rfl, rfl⟩) kd_23 (Nat.le_of_ble_eq_true rfl) ?_
  exact v_vret dX10_init_13 rfl hq
theorem p_X10 : Ki X (d + 1) m_X10_init [.ref 23] (newH h 23) 24 25 1 200 (RV fun g => Kp 23 h g ∧ Tm n 23 25 g) := by
  refine i_X10 ⟨rfl, ((((Kp.rfl (b := 23)).newH (by decide)).newH (by decide)).setR (by decide)), fun a h1 h2 j => ?_, fun x hx => ?_⟩
  · have : a = 23 ∨ a = 24 := by omega
    rcases this with rfl | rfl <;> rfl
  · revert x
    show ∀ x ∈ [((23, 0), 24)], (setR (newH (newH h 23) 24) 23 0 (some 24)).2.2 x.1.1 x.1.2 = some x.2
    exact (List.forall_mem_cons.mpr ⟨rfl, (List.forall_mem_nil _)⟩)
end KI
